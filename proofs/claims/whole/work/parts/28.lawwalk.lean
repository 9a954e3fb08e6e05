theorem tw_362 : (Cond.methodLink "KeyPathLaw" (13 : Nat) ({ cls := "KeyPath", name := "feed", desc := "(IIIII)I" } : MethodName)) ∈ k_Tg := k_tg 362 (by decide +kernel) rfl
theorem tw_363 : (Cond.instanceMethod ({ cls := "KeyPath", name := "feed", desc := "(IIIII)I" } : MethodName)) ∈ k_Tg := k_tg 363 (by decide +kernel) rfl
theorem tw_364 : (Cond.selects "KeyPath" ({ cls := "KeyPath", name := "feed", desc := "(IIIII)I" } : MethodName) ({ cls := "KeyPath", name := "feed", desc := "(IIIII)I" } : MethodName)) ∈ k_Tg := k_tg 364 (by decide +kernel) rfl
theorem tw_365 : (Cond.code ({ cls := "KeyPath", name := "feed", desc := "(IIIII)I" } : MethodName) prog_1_method_2_code (6 : Nat) (Option.some FieldType.int)) ∈ k_Tg := k_tg 365 (by decide +kernel) rfl
theorem tw_370 : (Cond.methodLink "KeyPathLaw" (18 : Nat) ({ cls := "KeyPath", name := "load", desc := "(I)I" } : MethodName)) ∈ k_Tg := k_tg 370 (by decide +kernel) rfl
theorem tw_371 : (Cond.instanceMethod ({ cls := "KeyPath", name := "load", desc := "(I)I" } : MethodName)) ∈ k_Tg := k_tg 371 (by decide +kernel) rfl
theorem tw_372 : (Cond.selects "KeyPath" ({ cls := "KeyPath", name := "load", desc := "(I)I" } : MethodName) ({ cls := "KeyPath", name := "load", desc := "(I)I" } : MethodName)) ∈ k_Tg := k_tg 372 (by decide +kernel) rfl
theorem tw_373 : (Cond.code ({ cls := "KeyPath", name := "load", desc := "(I)I" } : MethodName) prog_1_method_3_code (2 : Nat) (Option.some FieldType.int)) ∈ k_Tg := k_tg 373 (by decide +kernel) rfl
theorem tw_467 : (Cond.methodLink "KeyPathLaw" (23 : Nat) ({ cls := "KeyPath", name := "fault", desc := "(I)I" } : MethodName)) ∈ k_Tg := k_tg 467 (by decide +kernel) rfl
theorem tw_468 : (Cond.instanceMethod ({ cls := "KeyPath", name := "fault", desc := "(I)I" } : MethodName)) ∈ k_Tg := k_tg 468 (by decide +kernel) rfl
theorem tw_469 : (Cond.selects "KeyPath" ({ cls := "KeyPath", name := "fault", desc := "(I)I" } : MethodName) ({ cls := "KeyPath", name := "fault", desc := "(I)I" } : MethodName)) ∈ k_Tg := k_tg 469 (by decide +kernel) rfl
theorem tw_470 : (Cond.code ({ cls := "KeyPath", name := "fault", desc := "(I)I" } : MethodName) prog_1_method_4_code (2 : Nat) (Option.some FieldType.int)) ∈ k_Tg := k_tg 470 (by decide +kernel) rfl
theorem tw_471 : (Cond.methodLink "KeyPathLaw" (27 : Nat) ({ cls := "KeyPath", name := "put", desc := "(III)I" } : MethodName)) ∈ k_Tg := k_tg 471 (by decide +kernel) rfl
theorem tw_472 : (Cond.instanceMethod ({ cls := "KeyPath", name := "put", desc := "(III)I" } : MethodName)) ∈ k_Tg := k_tg 472 (by decide +kernel) rfl
theorem tw_473 : (Cond.selects "KeyPath" ({ cls := "KeyPath", name := "put", desc := "(III)I" } : MethodName) ({ cls := "KeyPath", name := "put", desc := "(III)I" } : MethodName)) ∈ k_Tg := k_tg 473 (by decide +kernel) rfl
theorem tw_474 : (Cond.code ({ cls := "KeyPath", name := "put", desc := "(III)I" } : MethodName) prog_1_method_5_code (5 : Nat) (Option.some FieldType.int)) ∈ k_Tg := k_tg 474 (by decide +kernel) rfl
theorem tw_489 : (Cond.methodLink "KeyPathLaw" (32 : Nat) ({ cls := "KeyPath", name := "drop", desc := "(I)I" } : MethodName)) ∈ k_Tg := k_tg 489 (by decide +kernel) rfl
theorem tw_490 : (Cond.instanceMethod ({ cls := "KeyPath", name := "drop", desc := "(I)I" } : MethodName)) ∈ k_Tg := k_tg 490 (by decide +kernel) rfl
theorem tw_491 : (Cond.selects "KeyPath" ({ cls := "KeyPath", name := "drop", desc := "(I)I" } : MethodName) ({ cls := "KeyPath", name := "drop", desc := "(I)I" } : MethodName)) ∈ k_Tg := k_tg 491 (by decide +kernel) rfl
theorem tw_492 : (Cond.code ({ cls := "KeyPath", name := "drop", desc := "(I)I" } : MethodName) prog_1_method_6_code (2 : Nat) (Option.some FieldType.int)) ∈ k_Tg := k_tg 492 (by decide +kernel) rfl
theorem tw_497 : (Cond.methodLink "KeyPathLaw" (36 : Nat) ({ cls := "KeyPath", name := "shift", desc := "(I)I" } : MethodName)) ∈ k_Tg := k_tg 497 (by decide +kernel) rfl
theorem tw_498 : (Cond.instanceMethod ({ cls := "KeyPath", name := "shift", desc := "(I)I" } : MethodName)) ∈ k_Tg := k_tg 498 (by decide +kernel) rfl
theorem tw_499 : (Cond.selects "KeyPath" ({ cls := "KeyPath", name := "shift", desc := "(I)I" } : MethodName) ({ cls := "KeyPath", name := "shift", desc := "(I)I" } : MethodName)) ∈ k_Tg := k_tg 499 (by decide +kernel) rfl
theorem tw_500 : (Cond.code ({ cls := "KeyPath", name := "shift", desc := "(I)I" } : MethodName) prog_1_method_7_code (2 : Nat) (Option.some FieldType.int)) ∈ k_Tg := k_tg 500 (by decide +kernel) rfl
theorem tw_510 : (Cond.methodLink "KeyPathLaw" (40 : Nat) ({ cls := "KeyPath", name := "undo", desc := "()I" } : MethodName)) ∈ k_Tg := k_tg 510 (by decide +kernel) rfl
theorem tw_511 : (Cond.instanceMethod ({ cls := "KeyPath", name := "undo", desc := "()I" } : MethodName)) ∈ k_Tg := k_tg 511 (by decide +kernel) rfl
theorem tw_512 : (Cond.selects "KeyPath" ({ cls := "KeyPath", name := "undo", desc := "()I" } : MethodName) ({ cls := "KeyPath", name := "undo", desc := "()I" } : MethodName)) ∈ k_Tg := k_tg 512 (by decide +kernel) rfl
theorem tw_513 : (Cond.code ({ cls := "KeyPath", name := "undo", desc := "()I" } : MethodName) prog_1_method_8_code (1 : Nat) (Option.some FieldType.int)) ∈ k_Tg := k_tg 513 (by decide +kernel) rfl
theorem tw_521 : (Cond.methodLink "KeyPathLaw" (45 : Nat) ({ cls := "KeyPath", name := "note", desc := "(II)I" } : MethodName)) ∈ k_Tg := k_tg 521 (by decide +kernel) rfl
theorem tw_522 : (Cond.instanceMethod ({ cls := "KeyPath", name := "note", desc := "(II)I" } : MethodName)) ∈ k_Tg := k_tg 522 (by decide +kernel) rfl
theorem tw_523 : (Cond.selects "KeyPath" ({ cls := "KeyPath", name := "note", desc := "(II)I" } : MethodName) ({ cls := "KeyPath", name := "note", desc := "(II)I" } : MethodName)) ∈ k_Tg := k_tg 523 (by decide +kernel) rfl
theorem tw_524 : (Cond.code ({ cls := "KeyPath", name := "note", desc := "(II)I" } : MethodName) prog_1_method_9_code (3 : Nat) (Option.some FieldType.int)) ∈ k_Tg := k_tg 524 (by decide +kernel) rfl
theorem tw_525 : (Cond.methodLink "KeyPathLaw" (50 : Nat) ({ cls := "KeyPath", name := "windows", desc := "(II)I" } : MethodName)) ∈ k_Tg := k_tg 525 (by decide +kernel) rfl
theorem tw_526 : (Cond.instanceMethod ({ cls := "KeyPath", name := "windows", desc := "(II)I" } : MethodName)) ∈ k_Tg := k_tg 526 (by decide +kernel) rfl
theorem tw_527 : (Cond.selects "KeyPath" ({ cls := "KeyPath", name := "windows", desc := "(II)I" } : MethodName) ({ cls := "KeyPath", name := "windows", desc := "(II)I" } : MethodName)) ∈ k_Tg := k_tg 527 (by decide +kernel) rfl
theorem tw_528 : (Cond.code ({ cls := "KeyPath", name := "windows", desc := "(II)I" } : MethodName) prog_1_method_10_code (3 : Nat) (Option.some FieldType.int)) ∈ k_Tg := k_tg 528 (by decide +kernel) rfl
theorem tw_573 : (Cond.methodLink "KeyPathLaw" (54 : Nat) ({ cls := "KeyPath", name := "weight", desc := "(III)I" } : MethodName)) ∈ k_Tg := k_tg 573 (by decide +kernel) rfl
theorem tw_574 : (Cond.instanceMethod ({ cls := "KeyPath", name := "weight", desc := "(III)I" } : MethodName)) ∈ k_Tg := k_tg 574 (by decide +kernel) rfl
theorem tw_575 : (Cond.selects "KeyPath" ({ cls := "KeyPath", name := "weight", desc := "(III)I" } : MethodName) ({ cls := "KeyPath", name := "weight", desc := "(III)I" } : MethodName)) ∈ k_Tg := k_tg 575 (by decide +kernel) rfl
theorem tw_576 : (Cond.code ({ cls := "KeyPath", name := "weight", desc := "(III)I" } : MethodName) prog_1_method_11_code (5 : Nat) (Option.some FieldType.int)) ∈ k_Tg := k_tg 576 (by decide +kernel) rfl
theorem tw_583 : (Cond.methodLink "KeyPathLaw" (58 : Nat) ({ cls := "KeyPath", name := "net", desc := "(IIII)I" } : MethodName)) ∈ k_Tg := k_tg 583 (by decide +kernel) rfl
theorem tw_584 : (Cond.instanceMethod ({ cls := "KeyPath", name := "net", desc := "(IIII)I" } : MethodName)) ∈ k_Tg := k_tg 584 (by decide +kernel) rfl
theorem tw_585 : (Cond.selects "KeyPath" ({ cls := "KeyPath", name := "net", desc := "(IIII)I" } : MethodName) ({ cls := "KeyPath", name := "net", desc := "(IIII)I" } : MethodName)) ∈ k_Tg := k_tg 585 (by decide +kernel) rfl
theorem tw_586 : (Cond.code ({ cls := "KeyPath", name := "net", desc := "(IIII)I" } : MethodName) prog_1_method_12_code (6 : Nat) (Option.some FieldType.int)) ∈ k_Tg := k_tg 586 (by decide +kernel) rfl
theorem tw_587 : (Cond.methodLink "KeyPathLaw" (63 : Nat) ({ cls := "KeyPath", name := "pin", desc := "(II)I" } : MethodName)) ∈ k_Tg := k_tg 587 (by decide +kernel) rfl
theorem tw_588 : (Cond.instanceMethod ({ cls := "KeyPath", name := "pin", desc := "(II)I" } : MethodName)) ∈ k_Tg := k_tg 588 (by decide +kernel) rfl
theorem tw_589 : (Cond.selects "KeyPath" ({ cls := "KeyPath", name := "pin", desc := "(II)I" } : MethodName) ({ cls := "KeyPath", name := "pin", desc := "(II)I" } : MethodName)) ∈ k_Tg := k_tg 589 (by decide +kernel) rfl
theorem tw_590 : (Cond.code ({ cls := "KeyPath", name := "pin", desc := "(II)I" } : MethodName) prog_1_method_13_code (4 : Nat) (Option.some FieldType.int)) ∈ k_Tg := k_tg 590 (by decide +kernel) rfl
theorem tw_594 : (Cond.methodLink "KeyPathLaw" (67 : Nat) ({ cls := "KeyPath", name := "tones", desc := "(II)I" } : MethodName)) ∈ k_Tg := k_tg 594 (by decide +kernel) rfl
theorem tw_595 : (Cond.instanceMethod ({ cls := "KeyPath", name := "tones", desc := "(II)I" } : MethodName)) ∈ k_Tg := k_tg 595 (by decide +kernel) rfl
theorem tw_596 : (Cond.selects "KeyPath" ({ cls := "KeyPath", name := "tones", desc := "(II)I" } : MethodName) ({ cls := "KeyPath", name := "tones", desc := "(II)I" } : MethodName)) ∈ k_Tg := k_tg 596 (by decide +kernel) rfl
theorem tw_597 : (Cond.code ({ cls := "KeyPath", name := "tones", desc := "(II)I" } : MethodName) prog_1_method_14_code (3 : Nat) (Option.some FieldType.int)) ∈ k_Tg := k_tg 597 (by decide +kernel) rfl
theorem tw_602 : (Cond.methodLink "KeyPathLaw" (71 : Nat) ({ cls := "KeyPath", name := "match", desc := "(III)I" } : MethodName)) ∈ k_Tg := k_tg 602 (by decide +kernel) rfl
theorem tw_603 : (Cond.instanceMethod ({ cls := "KeyPath", name := "match", desc := "(III)I" } : MethodName)) ∈ k_Tg := k_tg 603 (by decide +kernel) rfl
theorem tw_604 : (Cond.selects "KeyPath" ({ cls := "KeyPath", name := "match", desc := "(III)I" } : MethodName) ({ cls := "KeyPath", name := "match", desc := "(III)I" } : MethodName)) ∈ k_Tg := k_tg 604 (by decide +kernel) rfl
theorem tw_605 : (Cond.code ({ cls := "KeyPath", name := "match", desc := "(III)I" } : MethodName) prog_1_method_15_code (7 : Nat) (Option.some FieldType.int)) ∈ k_Tg := k_tg 605 (by decide +kernel) rfl
theorem tw_616 : (Cond.methodLink "KeyPathLaw" (75 : Nat) ({ cls := "KeyPath", name := "fit", desc := "(II)I" } : MethodName)) ∈ k_Tg := k_tg 616 (by decide +kernel) rfl
theorem tw_617 : (Cond.instanceMethod ({ cls := "KeyPath", name := "fit", desc := "(II)I" } : MethodName)) ∈ k_Tg := k_tg 617 (by decide +kernel) rfl
theorem tw_618 : (Cond.selects "KeyPath" ({ cls := "KeyPath", name := "fit", desc := "(II)I" } : MethodName) ({ cls := "KeyPath", name := "fit", desc := "(II)I" } : MethodName)) ∈ k_Tg := k_tg 618 (by decide +kernel) rfl
theorem tw_619 : (Cond.code ({ cls := "KeyPath", name := "fit", desc := "(II)I" } : MethodName) prog_1_method_16_code (3 : Nat) (Option.some FieldType.int)) ∈ k_Tg := k_tg 619 (by decide +kernel) rfl
theorem tw_634 : (Cond.methodLink "KeyPathLaw" (79 : Nat) ({ cls := "KeyPath", name := "ranked", desc := "(II)I" } : MethodName)) ∈ k_Tg := k_tg 634 (by decide +kernel) rfl
theorem tw_635 : (Cond.instanceMethod ({ cls := "KeyPath", name := "ranked", desc := "(II)I" } : MethodName)) ∈ k_Tg := k_tg 635 (by decide +kernel) rfl
theorem tw_636 : (Cond.selects "KeyPath" ({ cls := "KeyPath", name := "ranked", desc := "(II)I" } : MethodName) ({ cls := "KeyPath", name := "ranked", desc := "(II)I" } : MethodName)) ∈ k_Tg := k_tg 636 (by decide +kernel) rfl
theorem tw_637 : (Cond.code ({ cls := "KeyPath", name := "ranked", desc := "(II)I" } : MethodName) prog_1_method_17_code (3 : Nat) (Option.some FieldType.int)) ∈ k_Tg := k_tg 637 (by decide +kernel) rfl
theorem tw_646 : (Cond.methodLink "KeyPathLaw" (83 : Nat) ({ cls := "KeyPath", name := "overall", desc := "(I)I" } : MethodName)) ∈ k_Tg := k_tg 646 (by decide +kernel) rfl
theorem tw_647 : (Cond.instanceMethod ({ cls := "KeyPath", name := "overall", desc := "(I)I" } : MethodName)) ∈ k_Tg := k_tg 647 (by decide +kernel) rfl
theorem tw_648 : (Cond.selects "KeyPath" ({ cls := "KeyPath", name := "overall", desc := "(I)I" } : MethodName) ({ cls := "KeyPath", name := "overall", desc := "(I)I" } : MethodName)) ∈ k_Tg := k_tg 648 (by decide +kernel) rfl
theorem tw_649 : (Cond.code ({ cls := "KeyPath", name := "overall", desc := "(I)I" } : MethodName) prog_1_method_18_code (2 : Nat) (Option.some FieldType.int)) ∈ k_Tg := k_tg 649 (by decide +kernel) rfl
theorem tw_650 : (Cond.methodLink "KeyPathLaw" (87 : Nat) ({ cls := "KeyPath", name := "chord", desc := "(I)I" } : MethodName)) ∈ k_Tg := k_tg 650 (by decide +kernel) rfl
theorem tw_651 : (Cond.instanceMethod ({ cls := "KeyPath", name := "chord", desc := "(I)I" } : MethodName)) ∈ k_Tg := k_tg 651 (by decide +kernel) rfl
theorem tw_652 : (Cond.selects "KeyPath" ({ cls := "KeyPath", name := "chord", desc := "(I)I" } : MethodName) ({ cls := "KeyPath", name := "chord", desc := "(I)I" } : MethodName)) ∈ k_Tg := k_tg 652 (by decide +kernel) rfl
theorem tw_653 : (Cond.code ({ cls := "KeyPath", name := "chord", desc := "(I)I" } : MethodName) prog_1_method_19_code (2 : Nat) (Option.some FieldType.int)) ∈ k_Tg := k_tg 653 (by decide +kernel) rfl
theorem tw_654 : (Cond.methodLink "KeyPathLaw" (91 : Nat) ({ cls := "KeyPath", name := "distance", desc := "(II)I" } : MethodName)) ∈ k_Tg := k_tg 654 (by decide +kernel) rfl
theorem tw_655 : (Cond.instanceMethod ({ cls := "KeyPath", name := "distance", desc := "(II)I" } : MethodName)) ∈ k_Tg := k_tg 655 (by decide +kernel) rfl
theorem tw_656 : (Cond.selects "KeyPath" ({ cls := "KeyPath", name := "distance", desc := "(II)I" } : MethodName) ({ cls := "KeyPath", name := "distance", desc := "(II)I" } : MethodName)) ∈ k_Tg := k_tg 656 (by decide +kernel) rfl
theorem tw_657 : (Cond.code ({ cls := "KeyPath", name := "distance", desc := "(II)I" } : MethodName) prog_1_method_20_code (3 : Nat) (Option.some FieldType.int)) ∈ k_Tg := k_tg 657 (by decide +kernel) rfl
theorem tw_683 : (Cond.methodLink "KeyPathLaw" (95 : Nat) ({ cls := "KeyPath", name := "way", desc := "(III)I" } : MethodName)) ∈ k_Tg := k_tg 683 (by decide +kernel) rfl
theorem tw_684 : (Cond.instanceMethod ({ cls := "KeyPath", name := "way", desc := "(III)I" } : MethodName)) ∈ k_Tg := k_tg 684 (by decide +kernel) rfl
theorem tw_685 : (Cond.selects "KeyPath" ({ cls := "KeyPath", name := "way", desc := "(III)I" } : MethodName) ({ cls := "KeyPath", name := "way", desc := "(III)I" } : MethodName)) ∈ k_Tg := k_tg 685 (by decide +kernel) rfl
theorem tw_686 : (Cond.code ({ cls := "KeyPath", name := "way", desc := "(III)I" } : MethodName) prog_1_method_21_code (4 : Nat) (Option.some FieldType.int)) ∈ k_Tg := k_tg 686 (by decide +kernel) rfl
theorem tw_696 : (Cond.methodLink "KeyPathLaw" (99 : Nat) ({ cls := "KeyPath", name := "cost", desc := "()I" } : MethodName)) ∈ k_Tg := k_tg 696 (by decide +kernel) rfl
theorem tw_697 : (Cond.instanceMethod ({ cls := "KeyPath", name := "cost", desc := "()I" } : MethodName)) ∈ k_Tg := k_tg 697 (by decide +kernel) rfl
theorem tw_698 : (Cond.selects "KeyPath" ({ cls := "KeyPath", name := "cost", desc := "()I" } : MethodName) ({ cls := "KeyPath", name := "cost", desc := "()I" } : MethodName)) ∈ k_Tg := k_tg 698 (by decide +kernel) rfl
theorem tw_699 : (Cond.code ({ cls := "KeyPath", name := "cost", desc := "()I" } : MethodName) prog_1_method_22_code (1 : Nat) (Option.some FieldType.int)) ∈ k_Tg := k_tg 699 (by decide +kernel) rfl
theorem tw_748 : (Cond.methodLink "KeyPathLaw" (103 : Nat) ({ cls := "KeyPath", name := "key", desc := "(I)I" } : MethodName)) ∈ k_Tg := k_tg 748 (by decide +kernel) rfl
theorem tw_749 : (Cond.instanceMethod ({ cls := "KeyPath", name := "key", desc := "(I)I" } : MethodName)) ∈ k_Tg := k_tg 749 (by decide +kernel) rfl
theorem tw_750 : (Cond.selects "KeyPath" ({ cls := "KeyPath", name := "key", desc := "(I)I" } : MethodName) ({ cls := "KeyPath", name := "key", desc := "(I)I" } : MethodName)) ∈ k_Tg := k_tg 750 (by decide +kernel) rfl
theorem tw_751 : (Cond.code ({ cls := "KeyPath", name := "key", desc := "(I)I" } : MethodName) prog_1_method_23_code (2 : Nat) (Option.some FieldType.int)) ∈ k_Tg := k_tg 751 (by decide +kernel) rfl
theorem tw_752 : (Cond.methodLink "KeyPathLaw" (107 : Nat) ({ cls := "KeyPath", name := "ties", desc := "()I" } : MethodName)) ∈ k_Tg := k_tg 752 (by decide +kernel) rfl
theorem tw_753 : (Cond.instanceMethod ({ cls := "KeyPath", name := "ties", desc := "()I" } : MethodName)) ∈ k_Tg := k_tg 753 (by decide +kernel) rfl
theorem tw_754 : (Cond.selects "KeyPath" ({ cls := "KeyPath", name := "ties", desc := "()I" } : MethodName) ({ cls := "KeyPath", name := "ties", desc := "()I" } : MethodName)) ∈ k_Tg := k_tg 754 (by decide +kernel) rfl
theorem tw_755 : (Cond.code ({ cls := "KeyPath", name := "ties", desc := "()I" } : MethodName) prog_1_method_24_code (1 : Nat) (Option.some FieldType.int)) ∈ k_Tg := k_tg 755 (by decide +kernel) rfl
theorem tw_756 : (Cond.methodLink "KeyPathLaw" (111 : Nat) ({ cls := "KeyPath", name := "through", desc := "(II)I" } : MethodName)) ∈ k_Tg := k_tg 756 (by decide +kernel) rfl
theorem tw_757 : (Cond.instanceMethod ({ cls := "KeyPath", name := "through", desc := "(II)I" } : MethodName)) ∈ k_Tg := k_tg 757 (by decide +kernel) rfl
theorem tw_758 : (Cond.selects "KeyPath" ({ cls := "KeyPath", name := "through", desc := "(II)I" } : MethodName) ({ cls := "KeyPath", name := "through", desc := "(II)I" } : MethodName)) ∈ k_Tg := k_tg 758 (by decide +kernel) rfl
theorem tw_759 : (Cond.code ({ cls := "KeyPath", name := "through", desc := "(II)I" } : MethodName) prog_1_method_25_code (3 : Nat) (Option.some FieldType.int)) ∈ k_Tg := k_tg 759 (by decide +kernel) rfl
theorem tw_777 : (Cond.methodLink "KeyPathLaw" (115 : Nat) ({ cls := "KeyPath", name := "unsure", desc := "(II)I" } : MethodName)) ∈ k_Tg := k_tg 777 (by decide +kernel) rfl
theorem tw_778 : (Cond.instanceMethod ({ cls := "KeyPath", name := "unsure", desc := "(II)I" } : MethodName)) ∈ k_Tg := k_tg 778 (by decide +kernel) rfl
theorem tw_779 : (Cond.selects "KeyPath" ({ cls := "KeyPath", name := "unsure", desc := "(II)I" } : MethodName) ({ cls := "KeyPath", name := "unsure", desc := "(II)I" } : MethodName)) ∈ k_Tg := k_tg 779 (by decide +kernel) rfl
theorem tw_780 : (Cond.code ({ cls := "KeyPath", name := "unsure", desc := "(II)I" } : MethodName) prog_1_method_26_code (3 : Nat) (Option.some FieldType.int)) ∈ k_Tg := k_tg 780 (by decide +kernel) rfl
theorem tw_786 : (Cond.methodLink "KeyPathLaw" (119 : Nat) ({ cls := "KeyPath", name := "second", desc := "(I)I" } : MethodName)) ∈ k_Tg := k_tg 786 (by decide +kernel) rfl
theorem tw_787 : (Cond.instanceMethod ({ cls := "KeyPath", name := "second", desc := "(I)I" } : MethodName)) ∈ k_Tg := k_tg 787 (by decide +kernel) rfl
theorem tw_788 : (Cond.selects "KeyPath" ({ cls := "KeyPath", name := "second", desc := "(I)I" } : MethodName) ({ cls := "KeyPath", name := "second", desc := "(I)I" } : MethodName)) ∈ k_Tg := k_tg 788 (by decide +kernel) rfl
theorem tw_789 : (Cond.code ({ cls := "KeyPath", name := "second", desc := "(I)I" } : MethodName) prog_1_method_27_code (6 : Nat) (Option.some FieldType.int)) ∈ k_Tg := k_tg 789 (by decide +kernel) rfl
theorem tw_794 : (Cond.methodLink "KeyPathLaw" (123 : Nat) ({ cls := "KeyPath", name := "within", desc := "(I)I" } : MethodName)) ∈ k_Tg := k_tg 794 (by decide +kernel) rfl
theorem tw_795 : (Cond.instanceMethod ({ cls := "KeyPath", name := "within", desc := "(I)I" } : MethodName)) ∈ k_Tg := k_tg 795 (by decide +kernel) rfl
theorem tw_796 : (Cond.selects "KeyPath" ({ cls := "KeyPath", name := "within", desc := "(I)I" } : MethodName) ({ cls := "KeyPath", name := "within", desc := "(I)I" } : MethodName)) ∈ k_Tg := k_tg 796 (by decide +kernel) rfl
theorem tw_797 : (Cond.code ({ cls := "KeyPath", name := "within", desc := "(I)I" } : MethodName) prog_1_method_28_code (2 : Nat) (Option.some FieldType.int)) ∈ k_Tg := k_tg 797 (by decide +kernel) rfl
theorem tw_815 : (Cond.methodLink "KeyPathLaw" (127 : Nat) ({ cls := "KeyPath", name := "lasting", desc := "(I)I" } : MethodName)) ∈ k_Tg := k_tg 815 (by decide +kernel) rfl
theorem tw_816 : (Cond.instanceMethod ({ cls := "KeyPath", name := "lasting", desc := "(I)I" } : MethodName)) ∈ k_Tg := k_tg 816 (by decide +kernel) rfl
theorem tw_817 : (Cond.selects "KeyPath" ({ cls := "KeyPath", name := "lasting", desc := "(I)I" } : MethodName) ({ cls := "KeyPath", name := "lasting", desc := "(I)I" } : MethodName)) ∈ k_Tg := k_tg 817 (by decide +kernel) rfl
theorem tw_818 : (Cond.code ({ cls := "KeyPath", name := "lasting", desc := "(I)I" } : MethodName) prog_1_method_29_code (2 : Nat) (Option.some FieldType.int)) ∈ k_Tg := k_tg 818 (by decide +kernel) rfl
theorem tw_827 : (Cond.methodLink "KeyPathLaw" (131 : Nat) ({ cls := "KeyPath", name := "firm", desc := "()I" } : MethodName)) ∈ k_Tg := k_tg 827 (by decide +kernel) rfl
theorem tw_828 : (Cond.instanceMethod ({ cls := "KeyPath", name := "firm", desc := "()I" } : MethodName)) ∈ k_Tg := k_tg 828 (by decide +kernel) rfl
theorem tw_829 : (Cond.selects "KeyPath" ({ cls := "KeyPath", name := "firm", desc := "()I" } : MethodName) ({ cls := "KeyPath", name := "firm", desc := "()I" } : MethodName)) ∈ k_Tg := k_tg 829 (by decide +kernel) rfl
theorem tw_830 : (Cond.code ({ cls := "KeyPath", name := "firm", desc := "()I" } : MethodName) prog_1_method_30_code (1 : Nat) (Option.some FieldType.int)) ∈ k_Tg := k_tg 830 (by decide +kernel) rfl
theorem tw_844 : (Cond.methodLink "KeyPathLaw" (135 : Nat) ({ cls := "KeyPath", name := "segments", desc := "()I" } : MethodName)) ∈ k_Tg := k_tg 844 (by decide +kernel) rfl
theorem tw_845 : (Cond.instanceMethod ({ cls := "KeyPath", name := "segments", desc := "()I" } : MethodName)) ∈ k_Tg := k_tg 845 (by decide +kernel) rfl
theorem tw_846 : (Cond.selects "KeyPath" ({ cls := "KeyPath", name := "segments", desc := "()I" } : MethodName) ({ cls := "KeyPath", name := "segments", desc := "()I" } : MethodName)) ∈ k_Tg := k_tg 846 (by decide +kernel) rfl
theorem tw_847 : (Cond.code ({ cls := "KeyPath", name := "segments", desc := "()I" } : MethodName) prog_1_method_31_code (1 : Nat) (Option.some FieldType.int)) ∈ k_Tg := k_tg 847 (by decide +kernel) rfl
theorem tw_848 : (Cond.methodLink "KeyPathLaw" (139 : Nat) ({ cls := "KeyPath", name := "segment", desc := "(II)I" } : MethodName)) ∈ k_Tg := k_tg 848 (by decide +kernel) rfl
theorem tw_849 : (Cond.instanceMethod ({ cls := "KeyPath", name := "segment", desc := "(II)I" } : MethodName)) ∈ k_Tg := k_tg 849 (by decide +kernel) rfl
theorem tw_850 : (Cond.selects "KeyPath" ({ cls := "KeyPath", name := "segment", desc := "(II)I" } : MethodName) ({ cls := "KeyPath", name := "segment", desc := "(II)I" } : MethodName)) ∈ k_Tg := k_tg 850 (by decide +kernel) rfl
theorem tw_851 : (Cond.code ({ cls := "KeyPath", name := "segment", desc := "(II)I" } : MethodName) prog_1_method_32_code (4 : Nat) (Option.some FieldType.int)) ∈ k_Tg := k_tg 851 (by decide +kernel) rfl
theorem tw_856 : (Cond.methodLink "KeyPathLaw" (143 : Nat) ({ cls := "KeyPath", name := "pivot", desc := "(II)I" } : MethodName)) ∈ k_Tg := k_tg 856 (by decide +kernel) rfl
theorem tw_857 : (Cond.instanceMethod ({ cls := "KeyPath", name := "pivot", desc := "(II)I" } : MethodName)) ∈ k_Tg := k_tg 857 (by decide +kernel) rfl
theorem tw_858 : (Cond.selects "KeyPath" ({ cls := "KeyPath", name := "pivot", desc := "(II)I" } : MethodName) ({ cls := "KeyPath", name := "pivot", desc := "(II)I" } : MethodName)) ∈ k_Tg := k_tg 858 (by decide +kernel) rfl
theorem tw_859 : (Cond.code ({ cls := "KeyPath", name := "pivot", desc := "(II)I" } : MethodName) prog_1_method_33_code (7 : Nat) (Option.some FieldType.int)) ∈ k_Tg := k_tg 859 (by decide +kernel) rfl
theorem tw_882 : (Cond.methodLink "KeyPathLaw" (147 : Nat) ({ cls := "KeyPath", name := "roman", desc := "(I)I" } : MethodName)) ∈ k_Tg := k_tg 882 (by decide +kernel) rfl
theorem tw_883 : (Cond.instanceMethod ({ cls := "KeyPath", name := "roman", desc := "(I)I" } : MethodName)) ∈ k_Tg := k_tg 883 (by decide +kernel) rfl
theorem tw_884 : (Cond.selects "KeyPath" ({ cls := "KeyPath", name := "roman", desc := "(I)I" } : MethodName) ({ cls := "KeyPath", name := "roman", desc := "(I)I" } : MethodName)) ∈ k_Tg := k_tg 884 (by decide +kernel) rfl
theorem tw_885 : (Cond.code ({ cls := "KeyPath", name := "roman", desc := "(I)I" } : MethodName) prog_1_method_34_code (2 : Nat) (Option.some FieldType.int)) ∈ k_Tg := k_tg 885 (by decide +kernel) rfl
theorem tw_890 : (Cond.methodLink "KeyPathLaw" (151 : Nat) ({ cls := "KeyPath", name := "outside", desc := "()I" } : MethodName)) ∈ k_Tg := k_tg 890 (by decide +kernel) rfl
theorem tw_891 : (Cond.instanceMethod ({ cls := "KeyPath", name := "outside", desc := "()I" } : MethodName)) ∈ k_Tg := k_tg 891 (by decide +kernel) rfl
theorem tw_892 : (Cond.selects "KeyPath" ({ cls := "KeyPath", name := "outside", desc := "()I" } : MethodName) ({ cls := "KeyPath", name := "outside", desc := "()I" } : MethodName)) ∈ k_Tg := k_tg 892 (by decide +kernel) rfl
theorem tw_893 : (Cond.code ({ cls := "KeyPath", name := "outside", desc := "()I" } : MethodName) prog_1_method_35_code (3 : Nat) (Option.some FieldType.int)) ∈ k_Tg := k_tg 893 (by decide +kernel) rfl
theorem tw_894 : (Cond.methodLink "KeyPathLaw" (155 : Nat) ({ cls := "KeyPath", name := "progression", desc := "(I)I" } : MethodName)) ∈ k_Tg := k_tg 894 (by decide +kernel) rfl
theorem tw_895 : (Cond.instanceMethod ({ cls := "KeyPath", name := "progression", desc := "(I)I" } : MethodName)) ∈ k_Tg := k_tg 895 (by decide +kernel) rfl
theorem tw_896 : (Cond.selects "KeyPath" ({ cls := "KeyPath", name := "progression", desc := "(I)I" } : MethodName) ({ cls := "KeyPath", name := "progression", desc := "(I)I" } : MethodName)) ∈ k_Tg := k_tg 896 (by decide +kernel) rfl
theorem tw_897 : (Cond.code ({ cls := "KeyPath", name := "progression", desc := "(I)I" } : MethodName) prog_1_method_36_code (6 : Nat) (Option.some FieldType.int)) ∈ k_Tg := k_tg 897 (by decide +kernel) rfl
theorem tw_898 : (Cond.methodLink "KeyPathLaw" (159 : Nat) ({ cls := "KeyPath", name := "confirmed", desc := "(I)I" } : MethodName)) ∈ k_Tg := k_tg 898 (by decide +kernel) rfl
theorem tw_899 : (Cond.instanceMethod ({ cls := "KeyPath", name := "confirmed", desc := "(I)I" } : MethodName)) ∈ k_Tg := k_tg 899 (by decide +kernel) rfl
theorem tw_900 : (Cond.selects "KeyPath" ({ cls := "KeyPath", name := "confirmed", desc := "(I)I" } : MethodName) ({ cls := "KeyPath", name := "confirmed", desc := "(I)I" } : MethodName)) ∈ k_Tg := k_tg 900 (by decide +kernel) rfl
theorem tw_901 : (Cond.code ({ cls := "KeyPath", name := "confirmed", desc := "(I)I" } : MethodName) prog_1_method_37_code (6 : Nat) (Option.some FieldType.int)) ∈ k_Tg := k_tg 901 (by decide +kernel) rfl
theorem tw_906 : (Cond.methodLink "KeyPathLaw" (163 : Nat) ({ cls := "KeyPath", name := "learnt", desc := "(II)I" } : MethodName)) ∈ k_Tg := k_tg 906 (by decide +kernel) rfl
theorem tw_907 : (Cond.instanceMethod ({ cls := "KeyPath", name := "learnt", desc := "(II)I" } : MethodName)) ∈ k_Tg := k_tg 907 (by decide +kernel) rfl
theorem tw_908 : (Cond.selects "KeyPath" ({ cls := "KeyPath", name := "learnt", desc := "(II)I" } : MethodName) ({ cls := "KeyPath", name := "learnt", desc := "(II)I" } : MethodName)) ∈ k_Tg := k_tg 908 (by decide +kernel) rfl
theorem tw_909 : (Cond.code ({ cls := "KeyPath", name := "learnt", desc := "(II)I" } : MethodName) prog_1_method_38_code (7 : Nat) (Option.some FieldType.int)) ∈ k_Tg := k_tg 909 (by decide +kernel) rfl
theorem tw_910 : (Cond.methodLink "KeyPathLaw" (167 : Nat) ({ cls := "KeyPath", name := "foreign", desc := "(II)I" } : MethodName)) ∈ k_Tg := k_tg 910 (by decide +kernel) rfl
theorem tw_911 : (Cond.instanceMethod ({ cls := "KeyPath", name := "foreign", desc := "(II)I" } : MethodName)) ∈ k_Tg := k_tg 911 (by decide +kernel) rfl
theorem tw_912 : (Cond.selects "KeyPath" ({ cls := "KeyPath", name := "foreign", desc := "(II)I" } : MethodName) ({ cls := "KeyPath", name := "foreign", desc := "(II)I" } : MethodName)) ∈ k_Tg := k_tg 912 (by decide +kernel) rfl
theorem tw_913 : (Cond.code ({ cls := "KeyPath", name := "foreign", desc := "(II)I" } : MethodName) prog_1_method_39_code (5 : Nat) (Option.some FieldType.int)) ∈ k_Tg := k_tg 913 (by decide +kernel) rfl
theorem tw_914 : (Cond.methodLink "KeyPathLaw" (171 : Nat) ({ cls := "KeyPath", name := "close", desc := "()I" } : MethodName)) ∈ k_Tg := k_tg 914 (by decide +kernel) rfl
theorem tw_915 : (Cond.instanceMethod ({ cls := "KeyPath", name := "close", desc := "()I" } : MethodName)) ∈ k_Tg := k_tg 915 (by decide +kernel) rfl
theorem tw_916 : (Cond.selects "KeyPath" ({ cls := "KeyPath", name := "close", desc := "()I" } : MethodName) ({ cls := "KeyPath", name := "close", desc := "()I" } : MethodName)) ∈ k_Tg := k_tg 916 (by decide +kernel) rfl
theorem tw_917 : (Cond.code ({ cls := "KeyPath", name := "close", desc := "()I" } : MethodName) prog_1_method_40_code (4 : Nat) (Option.some FieldType.int)) ∈ k_Tg := k_tg 917 (by decide +kernel) rfl
theorem tw_922 : (Cond.methodLink "KeyPathLaw" (175 : Nat) ({ cls := "KeyPath", name := "degree", desc := "(II)I" } : MethodName)) ∈ k_Tg := k_tg 922 (by decide +kernel) rfl
theorem tw_923 : (Cond.instanceMethod ({ cls := "KeyPath", name := "degree", desc := "(II)I" } : MethodName)) ∈ k_Tg := k_tg 923 (by decide +kernel) rfl
theorem tw_924 : (Cond.selects "KeyPath" ({ cls := "KeyPath", name := "degree", desc := "(II)I" } : MethodName) ({ cls := "KeyPath", name := "degree", desc := "(II)I" } : MethodName)) ∈ k_Tg := k_tg 924 (by decide +kernel) rfl
theorem tw_925 : (Cond.code ({ cls := "KeyPath", name := "degree", desc := "(II)I" } : MethodName) prog_1_method_41_code (3 : Nat) (Option.some FieldType.int)) ∈ k_Tg := k_tg 925 (by decide +kernel) rfl
theorem tw_926 : (Cond.methodLink "KeyPathLaw" (179 : Nat) ({ cls := "KeyPath", name := "name", desc := "(II)I" } : MethodName)) ∈ k_Tg := k_tg 926 (by decide +kernel) rfl
theorem tw_927 : (Cond.instanceMethod ({ cls := "KeyPath", name := "name", desc := "(II)I" } : MethodName)) ∈ k_Tg := k_tg 927 (by decide +kernel) rfl
theorem tw_928 : (Cond.selects "KeyPath" ({ cls := "KeyPath", name := "name", desc := "(II)I" } : MethodName) ({ cls := "KeyPath", name := "name", desc := "(II)I" } : MethodName)) ∈ k_Tg := k_tg 928 (by decide +kernel) rfl
theorem tw_929 : (Cond.code ({ cls := "KeyPath", name := "name", desc := "(II)I" } : MethodName) prog_1_method_42_code (4 : Nat) (Option.some FieldType.int)) ∈ k_Tg := k_tg 929 (by decide +kernel) rfl
theorem tw_973 : (Cond.methodLink "KeyPathLaw" (183 : Nat) ({ cls := "KeyPath", name := "count", desc := "(I)I" } : MethodName)) ∈ k_Tg := k_tg 973 (by decide +kernel) rfl
theorem tw_974 : (Cond.instanceMethod ({ cls := "KeyPath", name := "count", desc := "(I)I" } : MethodName)) ∈ k_Tg := k_tg 974 (by decide +kernel) rfl
theorem tw_975 : (Cond.selects "KeyPath" ({ cls := "KeyPath", name := "count", desc := "(I)I" } : MethodName) ({ cls := "KeyPath", name := "count", desc := "(I)I" } : MethodName)) ∈ k_Tg := k_tg 975 (by decide +kernel) rfl
theorem tw_976 : (Cond.code ({ cls := "KeyPath", name := "count", desc := "(I)I" } : MethodName) prog_1_method_43_code (2 : Nat) (Option.some FieldType.int)) ∈ k_Tg := k_tg 976 (by decide +kernel) rfl
theorem tw_1114 : (Cond.methodLink "KeyPathLaw" (17 : Nat) ({ cls := "KeyPathModel", name := "feed", desc := "(IIIII)I" } : MethodName)) ∈ k_Tg := k_tg 1114 (by decide +kernel) rfl
theorem tw_1115 : (Cond.instanceMethod ({ cls := "KeyPathModel", name := "feed", desc := "(IIIII)I" } : MethodName)) ∈ k_Tg := k_tg 1115 (by decide +kernel) rfl
theorem tw_1116 : (Cond.selects "KeyPathModel" ({ cls := "KeyPathModel", name := "feed", desc := "(IIIII)I" } : MethodName) ({ cls := "KeyPathModel", name := "feed", desc := "(IIIII)I" } : MethodName)) ∈ k_Tg := k_tg 1116 (by decide +kernel) rfl
theorem tw_1117 : (Cond.code ({ cls := "KeyPathModel", name := "feed", desc := "(IIIII)I" } : MethodName) prog_11_method_4_code (8 : Nat) (Option.some FieldType.int)) ∈ k_Tg := k_tg 1117 (by decide +kernel) rfl
theorem tw_1118 : (Cond.methodLink "KeyPathLaw" (22 : Nat) ({ cls := "KeyPathModel", name := "load", desc := "(I)I" } : MethodName)) ∈ k_Tg := k_tg 1118 (by decide +kernel) rfl
theorem tw_1119 : (Cond.instanceMethod ({ cls := "KeyPathModel", name := "load", desc := "(I)I" } : MethodName)) ∈ k_Tg := k_tg 1119 (by decide +kernel) rfl
theorem tw_1120 : (Cond.selects "KeyPathModel" ({ cls := "KeyPathModel", name := "load", desc := "(I)I" } : MethodName) ({ cls := "KeyPathModel", name := "load", desc := "(I)I" } : MethodName)) ∈ k_Tg := k_tg 1120 (by decide +kernel) rfl
theorem tw_1121 : (Cond.code ({ cls := "KeyPathModel", name := "load", desc := "(I)I" } : MethodName) prog_11_method_13_code (4 : Nat) (Option.some FieldType.int)) ∈ k_Tg := k_tg 1121 (by decide +kernel) rfl
theorem tw_1166 : (Cond.methodLink "KeyPathLaw" (26 : Nat) ({ cls := "KeyPathModel", name := "fault", desc := "(I)I" } : MethodName)) ∈ k_Tg := k_tg 1166 (by decide +kernel) rfl
theorem tw_1167 : (Cond.instanceMethod ({ cls := "KeyPathModel", name := "fault", desc := "(I)I" } : MethodName)) ∈ k_Tg := k_tg 1167 (by decide +kernel) rfl
theorem tw_1168 : (Cond.selects "KeyPathModel" ({ cls := "KeyPathModel", name := "fault", desc := "(I)I" } : MethodName) ({ cls := "KeyPathModel", name := "fault", desc := "(I)I" } : MethodName)) ∈ k_Tg := k_tg 1168 (by decide +kernel) rfl
theorem tw_1169 : (Cond.code ({ cls := "KeyPathModel", name := "fault", desc := "(I)I" } : MethodName) prog_11_method_14_code (2 : Nat) (Option.some FieldType.int)) ∈ k_Tg := k_tg 1169 (by decide +kernel) rfl
theorem tw_1170 : (Cond.methodLink "KeyPathLaw" (31 : Nat) ({ cls := "KeyPathModel", name := "put", desc := "(III)I" } : MethodName)) ∈ k_Tg := k_tg 1170 (by decide +kernel) rfl
theorem tw_1171 : (Cond.instanceMethod ({ cls := "KeyPathModel", name := "put", desc := "(III)I" } : MethodName)) ∈ k_Tg := k_tg 1171 (by decide +kernel) rfl
theorem tw_1172 : (Cond.selects "KeyPathModel" ({ cls := "KeyPathModel", name := "put", desc := "(III)I" } : MethodName) ({ cls := "KeyPathModel", name := "put", desc := "(III)I" } : MethodName)) ∈ k_Tg := k_tg 1172 (by decide +kernel) rfl
theorem tw_1173 : (Cond.code ({ cls := "KeyPathModel", name := "put", desc := "(III)I" } : MethodName) prog_11_method_17_code (4 : Nat) (Option.some FieldType.int)) ∈ k_Tg := k_tg 1173 (by decide +kernel) rfl
theorem tw_1179 : (Cond.methodLink "KeyPathLaw" (35 : Nat) ({ cls := "KeyPathModel", name := "drop", desc := "(I)I" } : MethodName)) ∈ k_Tg := k_tg 1179 (by decide +kernel) rfl
theorem tw_1180 : (Cond.instanceMethod ({ cls := "KeyPathModel", name := "drop", desc := "(I)I" } : MethodName)) ∈ k_Tg := k_tg 1180 (by decide +kernel) rfl
theorem tw_1181 : (Cond.selects "KeyPathModel" ({ cls := "KeyPathModel", name := "drop", desc := "(I)I" } : MethodName) ({ cls := "KeyPathModel", name := "drop", desc := "(I)I" } : MethodName)) ∈ k_Tg := k_tg 1181 (by decide +kernel) rfl
theorem tw_1182 : (Cond.code ({ cls := "KeyPathModel", name := "drop", desc := "(I)I" } : MethodName) prog_11_method_19_code (3 : Nat) (Option.some FieldType.int)) ∈ k_Tg := k_tg 1182 (by decide +kernel) rfl
theorem tw_1187 : (Cond.methodLink "KeyPathLaw" (39 : Nat) ({ cls := "KeyPathModel", name := "shift", desc := "(I)I" } : MethodName)) ∈ k_Tg := k_tg 1187 (by decide +kernel) rfl
theorem tw_1188 : (Cond.instanceMethod ({ cls := "KeyPathModel", name := "shift", desc := "(I)I" } : MethodName)) ∈ k_Tg := k_tg 1188 (by decide +kernel) rfl
theorem tw_1189 : (Cond.selects "KeyPathModel" ({ cls := "KeyPathModel", name := "shift", desc := "(I)I" } : MethodName) ({ cls := "KeyPathModel", name := "shift", desc := "(I)I" } : MethodName)) ∈ k_Tg := k_tg 1189 (by decide +kernel) rfl
theorem tw_1190 : (Cond.code ({ cls := "KeyPathModel", name := "shift", desc := "(I)I" } : MethodName) prog_11_method_20_code (3 : Nat) (Option.some FieldType.int)) ∈ k_Tg := k_tg 1190 (by decide +kernel) rfl
theorem tw_1192 : (Cond.methodLink "KeyPathLaw" (44 : Nat) ({ cls := "KeyPathModel", name := "undo", desc := "()I" } : MethodName)) ∈ k_Tg := k_tg 1192 (by decide +kernel) rfl
theorem tw_1193 : (Cond.instanceMethod ({ cls := "KeyPathModel", name := "undo", desc := "()I" } : MethodName)) ∈ k_Tg := k_tg 1193 (by decide +kernel) rfl
theorem tw_1194 : (Cond.selects "KeyPathModel" ({ cls := "KeyPathModel", name := "undo", desc := "()I" } : MethodName) ({ cls := "KeyPathModel", name := "undo", desc := "()I" } : MethodName)) ∈ k_Tg := k_tg 1194 (by decide +kernel) rfl
theorem tw_1195 : (Cond.code ({ cls := "KeyPathModel", name := "undo", desc := "()I" } : MethodName) prog_11_method_21_code (3 : Nat) (Option.some FieldType.int)) ∈ k_Tg := k_tg 1195 (by decide +kernel) rfl
theorem tw_1196 : (Cond.methodLink "KeyPathLaw" (49 : Nat) ({ cls := "KeyPathModel", name := "note", desc := "(II)I" } : MethodName)) ∈ k_Tg := k_tg 1196 (by decide +kernel) rfl
theorem tw_1197 : (Cond.instanceMethod ({ cls := "KeyPathModel", name := "note", desc := "(II)I" } : MethodName)) ∈ k_Tg := k_tg 1197 (by decide +kernel) rfl
theorem tw_1198 : (Cond.selects "KeyPathModel" ({ cls := "KeyPathModel", name := "note", desc := "(II)I" } : MethodName) ({ cls := "KeyPathModel", name := "note", desc := "(II)I" } : MethodName)) ∈ k_Tg := k_tg 1198 (by decide +kernel) rfl
theorem tw_1199 : (Cond.code ({ cls := "KeyPathModel", name := "note", desc := "(II)I" } : MethodName) prog_11_method_22_code (3 : Nat) (Option.some FieldType.int)) ∈ k_Tg := k_tg 1199 (by decide +kernel) rfl
theorem tw_1201 : (Cond.methodLink "KeyPathLaw" (53 : Nat) ({ cls := "KeyPathModel", name := "windows", desc := "(II)I" } : MethodName)) ∈ k_Tg := k_tg 1201 (by decide +kernel) rfl
theorem tw_1202 : (Cond.instanceMethod ({ cls := "KeyPathModel", name := "windows", desc := "(II)I" } : MethodName)) ∈ k_Tg := k_tg 1202 (by decide +kernel) rfl
theorem tw_1203 : (Cond.selects "KeyPathModel" ({ cls := "KeyPathModel", name := "windows", desc := "(II)I" } : MethodName) ({ cls := "KeyPathModel", name := "windows", desc := "(II)I" } : MethodName)) ∈ k_Tg := k_tg 1203 (by decide +kernel) rfl
theorem tw_1204 : (Cond.code ({ cls := "KeyPathModel", name := "windows", desc := "(II)I" } : MethodName) prog_11_method_26_code (3 : Nat) (Option.some FieldType.int)) ∈ k_Tg := k_tg 1204 (by decide +kernel) rfl
theorem tw_1219 : (Cond.methodLink "KeyPathLaw" (57 : Nat) ({ cls := "KeyPathModel", name := "weight", desc := "(III)I" } : MethodName)) ∈ k_Tg := k_tg 1219 (by decide +kernel) rfl
theorem tw_1220 : (Cond.instanceMethod ({ cls := "KeyPathModel", name := "weight", desc := "(III)I" } : MethodName)) ∈ k_Tg := k_tg 1220 (by decide +kernel) rfl
theorem tw_1221 : (Cond.selects "KeyPathModel" ({ cls := "KeyPathModel", name := "weight", desc := "(III)I" } : MethodName) ({ cls := "KeyPathModel", name := "weight", desc := "(III)I" } : MethodName)) ∈ k_Tg := k_tg 1221 (by decide +kernel) rfl
theorem tw_1222 : (Cond.code ({ cls := "KeyPathModel", name := "weight", desc := "(III)I" } : MethodName) prog_11_method_28_code (5 : Nat) (Option.some FieldType.int)) ∈ k_Tg := k_tg 1222 (by decide +kernel) rfl
theorem tw_1228 : (Cond.methodLink "KeyPathLaw" (62 : Nat) ({ cls := "KeyPathModel", name := "net", desc := "(IIII)I" } : MethodName)) ∈ k_Tg := k_tg 1228 (by decide +kernel) rfl
theorem tw_1229 : (Cond.instanceMethod ({ cls := "KeyPathModel", name := "net", desc := "(IIII)I" } : MethodName)) ∈ k_Tg := k_tg 1229 (by decide +kernel) rfl
theorem tw_1230 : (Cond.selects "KeyPathModel" ({ cls := "KeyPathModel", name := "net", desc := "(IIII)I" } : MethodName) ({ cls := "KeyPathModel", name := "net", desc := "(IIII)I" } : MethodName)) ∈ k_Tg := k_tg 1230 (by decide +kernel) rfl
theorem tw_1231 : (Cond.code ({ cls := "KeyPathModel", name := "net", desc := "(IIII)I" } : MethodName) prog_11_method_29_code (6 : Nat) (Option.some FieldType.int)) ∈ k_Tg := k_tg 1231 (by decide +kernel) rfl
theorem tw_1234 : (Cond.methodLink "KeyPathLaw" (66 : Nat) ({ cls := "KeyPathModel", name := "pin", desc := "(II)I" } : MethodName)) ∈ k_Tg := k_tg 1234 (by decide +kernel) rfl
theorem tw_1235 : (Cond.instanceMethod ({ cls := "KeyPathModel", name := "pin", desc := "(II)I" } : MethodName)) ∈ k_Tg := k_tg 1235 (by decide +kernel) rfl
theorem tw_1236 : (Cond.selects "KeyPathModel" ({ cls := "KeyPathModel", name := "pin", desc := "(II)I" } : MethodName) ({ cls := "KeyPathModel", name := "pin", desc := "(II)I" } : MethodName)) ∈ k_Tg := k_tg 1236 (by decide +kernel) rfl
theorem tw_1237 : (Cond.code ({ cls := "KeyPathModel", name := "pin", desc := "(II)I" } : MethodName) prog_11_method_31_code (4 : Nat) (Option.some FieldType.int)) ∈ k_Tg := k_tg 1237 (by decide +kernel) rfl
theorem tw_1243 : (Cond.methodLink "KeyPathLaw" (70 : Nat) ({ cls := "KeyPathModel", name := "tones", desc := "(II)I" } : MethodName)) ∈ k_Tg := k_tg 1243 (by decide +kernel) rfl
theorem tw_1244 : (Cond.instanceMethod ({ cls := "KeyPathModel", name := "tones", desc := "(II)I" } : MethodName)) ∈ k_Tg := k_tg 1244 (by decide +kernel) rfl
theorem tw_1245 : (Cond.selects "KeyPathModel" ({ cls := "KeyPathModel", name := "tones", desc := "(II)I" } : MethodName) ({ cls := "KeyPathModel", name := "tones", desc := "(II)I" } : MethodName)) ∈ k_Tg := k_tg 1245 (by decide +kernel) rfl
theorem tw_1246 : (Cond.code ({ cls := "KeyPathModel", name := "tones", desc := "(II)I" } : MethodName) prog_11_method_35_code (3 : Nat) (Option.some FieldType.int)) ∈ k_Tg := k_tg 1246 (by decide +kernel) rfl
theorem tw_1259 : (Cond.methodLink "KeyPathLaw" (74 : Nat) ({ cls := "KeyPathModel", name := "match", desc := "(III)I" } : MethodName)) ∈ k_Tg := k_tg 1259 (by decide +kernel) rfl
theorem tw_1260 : (Cond.instanceMethod ({ cls := "KeyPathModel", name := "match", desc := "(III)I" } : MethodName)) ∈ k_Tg := k_tg 1260 (by decide +kernel) rfl
theorem tw_1261 : (Cond.selects "KeyPathModel" ({ cls := "KeyPathModel", name := "match", desc := "(III)I" } : MethodName) ({ cls := "KeyPathModel", name := "match", desc := "(III)I" } : MethodName)) ∈ k_Tg := k_tg 1261 (by decide +kernel) rfl
theorem tw_1262 : (Cond.code ({ cls := "KeyPathModel", name := "match", desc := "(III)I" } : MethodName) prog_11_method_38_code (5 : Nat) (Option.some FieldType.int)) ∈ k_Tg := k_tg 1262 (by decide +kernel) rfl
theorem tw_1270 : (Cond.methodLink "KeyPathLaw" (78 : Nat) ({ cls := "KeyPathModel", name := "fit", desc := "(II)I" } : MethodName)) ∈ k_Tg := k_tg 1270 (by decide +kernel) rfl
theorem tw_1271 : (Cond.instanceMethod ({ cls := "KeyPathModel", name := "fit", desc := "(II)I" } : MethodName)) ∈ k_Tg := k_tg 1271 (by decide +kernel) rfl
theorem tw_1272 : (Cond.selects "KeyPathModel" ({ cls := "KeyPathModel", name := "fit", desc := "(II)I" } : MethodName) ({ cls := "KeyPathModel", name := "fit", desc := "(II)I" } : MethodName)) ∈ k_Tg := k_tg 1272 (by decide +kernel) rfl
theorem tw_1273 : (Cond.code ({ cls := "KeyPathModel", name := "fit", desc := "(II)I" } : MethodName) prog_11_method_40_code (3 : Nat) (Option.some FieldType.int)) ∈ k_Tg := k_tg 1273 (by decide +kernel) rfl
theorem tw_1278 : (Cond.methodLink "KeyPathLaw" (82 : Nat) ({ cls := "KeyPathModel", name := "ranked", desc := "(II)I" } : MethodName)) ∈ k_Tg := k_tg 1278 (by decide +kernel) rfl
theorem tw_1279 : (Cond.instanceMethod ({ cls := "KeyPathModel", name := "ranked", desc := "(II)I" } : MethodName)) ∈ k_Tg := k_tg 1279 (by decide +kernel) rfl
theorem tw_1280 : (Cond.selects "KeyPathModel" ({ cls := "KeyPathModel", name := "ranked", desc := "(II)I" } : MethodName) ({ cls := "KeyPathModel", name := "ranked", desc := "(II)I" } : MethodName)) ∈ k_Tg := k_tg 1280 (by decide +kernel) rfl
theorem tw_1281 : (Cond.code ({ cls := "KeyPathModel", name := "ranked", desc := "(II)I" } : MethodName) prog_11_method_42_code (3 : Nat) (Option.some FieldType.int)) ∈ k_Tg := k_tg 1281 (by decide +kernel) rfl
theorem tw_1286 : (Cond.methodLink "KeyPathLaw" (86 : Nat) ({ cls := "KeyPathModel", name := "overall", desc := "(I)I" } : MethodName)) ∈ k_Tg := k_tg 1286 (by decide +kernel) rfl
theorem tw_1287 : (Cond.instanceMethod ({ cls := "KeyPathModel", name := "overall", desc := "(I)I" } : MethodName)) ∈ k_Tg := k_tg 1287 (by decide +kernel) rfl
theorem tw_1288 : (Cond.selects "KeyPathModel" ({ cls := "KeyPathModel", name := "overall", desc := "(I)I" } : MethodName) ({ cls := "KeyPathModel", name := "overall", desc := "(I)I" } : MethodName)) ∈ k_Tg := k_tg 1288 (by decide +kernel) rfl
theorem tw_1289 : (Cond.code ({ cls := "KeyPathModel", name := "overall", desc := "(I)I" } : MethodName) prog_11_method_43_code (2 : Nat) (Option.some FieldType.int)) ∈ k_Tg := k_tg 1289 (by decide +kernel) rfl
theorem tw_1290 : (Cond.methodLink "KeyPathLaw" (90 : Nat) ({ cls := "KeyPathModel", name := "chord", desc := "(I)I" } : MethodName)) ∈ k_Tg := k_tg 1290 (by decide +kernel) rfl
theorem tw_1291 : (Cond.instanceMethod ({ cls := "KeyPathModel", name := "chord", desc := "(I)I" } : MethodName)) ∈ k_Tg := k_tg 1291 (by decide +kernel) rfl
theorem tw_1292 : (Cond.selects "KeyPathModel" ({ cls := "KeyPathModel", name := "chord", desc := "(I)I" } : MethodName) ({ cls := "KeyPathModel", name := "chord", desc := "(I)I" } : MethodName)) ∈ k_Tg := k_tg 1292 (by decide +kernel) rfl
theorem tw_1293 : (Cond.code ({ cls := "KeyPathModel", name := "chord", desc := "(I)I" } : MethodName) prog_11_method_46_code (2 : Nat) (Option.some FieldType.int)) ∈ k_Tg := k_tg 1293 (by decide +kernel) rfl
theorem tw_1301 : (Cond.methodLink "KeyPathLaw" (94 : Nat) ({ cls := "KeyPathModel", name := "distance", desc := "(II)I" } : MethodName)) ∈ k_Tg := k_tg 1301 (by decide +kernel) rfl
theorem tw_1302 : (Cond.instanceMethod ({ cls := "KeyPathModel", name := "distance", desc := "(II)I" } : MethodName)) ∈ k_Tg := k_tg 1302 (by decide +kernel) rfl
theorem tw_1303 : (Cond.selects "KeyPathModel" ({ cls := "KeyPathModel", name := "distance", desc := "(II)I" } : MethodName) ({ cls := "KeyPathModel", name := "distance", desc := "(II)I" } : MethodName)) ∈ k_Tg := k_tg 1303 (by decide +kernel) rfl
theorem tw_1304 : (Cond.code ({ cls := "KeyPathModel", name := "distance", desc := "(II)I" } : MethodName) prog_11_method_51_code (3 : Nat) (Option.some FieldType.int)) ∈ k_Tg := k_tg 1304 (by decide +kernel) rfl
theorem tw_1317 : (Cond.methodLink "KeyPathLaw" (98 : Nat) ({ cls := "KeyPathModel", name := "way", desc := "(III)I" } : MethodName)) ∈ k_Tg := k_tg 1317 (by decide +kernel) rfl
theorem tw_1318 : (Cond.instanceMethod ({ cls := "KeyPathModel", name := "way", desc := "(III)I" } : MethodName)) ∈ k_Tg := k_tg 1318 (by decide +kernel) rfl
theorem tw_1319 : (Cond.selects "KeyPathModel" ({ cls := "KeyPathModel", name := "way", desc := "(III)I" } : MethodName) ({ cls := "KeyPathModel", name := "way", desc := "(III)I" } : MethodName)) ∈ k_Tg := k_tg 1319 (by decide +kernel) rfl
theorem tw_1320 : (Cond.code ({ cls := "KeyPathModel", name := "way", desc := "(III)I" } : MethodName) prog_11_method_52_code (9 : Nat) (Option.some FieldType.int)) ∈ k_Tg := k_tg 1320 (by decide +kernel) rfl
theorem tw_1321 : (Cond.methodLink "KeyPathLaw" (102 : Nat) ({ cls := "KeyPathModel", name := "cost", desc := "()I" } : MethodName)) ∈ k_Tg := k_tg 1321 (by decide +kernel) rfl
theorem tw_1322 : (Cond.instanceMethod ({ cls := "KeyPathModel", name := "cost", desc := "()I" } : MethodName)) ∈ k_Tg := k_tg 1322 (by decide +kernel) rfl
theorem tw_1323 : (Cond.selects "KeyPathModel" ({ cls := "KeyPathModel", name := "cost", desc := "()I" } : MethodName) ({ cls := "KeyPathModel", name := "cost", desc := "()I" } : MethodName)) ∈ k_Tg := k_tg 1323 (by decide +kernel) rfl
theorem tw_1324 : (Cond.code ({ cls := "KeyPathModel", name := "cost", desc := "()I" } : MethodName) prog_11_method_58_code (1 : Nat) (Option.some FieldType.int)) ∈ k_Tg := k_tg 1324 (by decide +kernel) rfl
theorem tw_1349 : (Cond.methodLink "KeyPathLaw" (106 : Nat) ({ cls := "KeyPathModel", name := "key", desc := "(I)I" } : MethodName)) ∈ k_Tg := k_tg 1349 (by decide +kernel) rfl
theorem tw_1350 : (Cond.instanceMethod ({ cls := "KeyPathModel", name := "key", desc := "(I)I" } : MethodName)) ∈ k_Tg := k_tg 1350 (by decide +kernel) rfl
theorem tw_1351 : (Cond.selects "KeyPathModel" ({ cls := "KeyPathModel", name := "key", desc := "(I)I" } : MethodName) ({ cls := "KeyPathModel", name := "key", desc := "(I)I" } : MethodName)) ∈ k_Tg := k_tg 1351 (by decide +kernel) rfl
theorem tw_1352 : (Cond.code ({ cls := "KeyPathModel", name := "key", desc := "(I)I" } : MethodName) prog_11_method_59_code (2 : Nat) (Option.some FieldType.int)) ∈ k_Tg := k_tg 1352 (by decide +kernel) rfl
theorem tw_1353 : (Cond.methodLink "KeyPathLaw" (110 : Nat) ({ cls := "KeyPathModel", name := "ties", desc := "()I" } : MethodName)) ∈ k_Tg := k_tg 1353 (by decide +kernel) rfl
theorem tw_1354 : (Cond.instanceMethod ({ cls := "KeyPathModel", name := "ties", desc := "()I" } : MethodName)) ∈ k_Tg := k_tg 1354 (by decide +kernel) rfl
theorem tw_1355 : (Cond.selects "KeyPathModel" ({ cls := "KeyPathModel", name := "ties", desc := "()I" } : MethodName) ({ cls := "KeyPathModel", name := "ties", desc := "()I" } : MethodName)) ∈ k_Tg := k_tg 1355 (by decide +kernel) rfl
theorem tw_1356 : (Cond.code ({ cls := "KeyPathModel", name := "ties", desc := "()I" } : MethodName) prog_11_method_60_code (3 : Nat) (Option.some FieldType.int)) ∈ k_Tg := k_tg 1356 (by decide +kernel) rfl
theorem tw_1357 : (Cond.methodLink "KeyPathLaw" (114 : Nat) ({ cls := "KeyPathModel", name := "through", desc := "(II)I" } : MethodName)) ∈ k_Tg := k_tg 1357 (by decide +kernel) rfl
theorem tw_1358 : (Cond.instanceMethod ({ cls := "KeyPathModel", name := "through", desc := "(II)I" } : MethodName)) ∈ k_Tg := k_tg 1358 (by decide +kernel) rfl
theorem tw_1359 : (Cond.selects "KeyPathModel" ({ cls := "KeyPathModel", name := "through", desc := "(II)I" } : MethodName) ({ cls := "KeyPathModel", name := "through", desc := "(II)I" } : MethodName)) ∈ k_Tg := k_tg 1359 (by decide +kernel) rfl
theorem tw_1360 : (Cond.code ({ cls := "KeyPathModel", name := "through", desc := "(II)I" } : MethodName) prog_11_method_63_code (3 : Nat) (Option.some FieldType.int)) ∈ k_Tg := k_tg 1360 (by decide +kernel) rfl
theorem tw_1369 : (Cond.methodLink "KeyPathLaw" (118 : Nat) ({ cls := "KeyPathModel", name := "unsure", desc := "(II)I" } : MethodName)) ∈ k_Tg := k_tg 1369 (by decide +kernel) rfl
theorem tw_1370 : (Cond.instanceMethod ({ cls := "KeyPathModel", name := "unsure", desc := "(II)I" } : MethodName)) ∈ k_Tg := k_tg 1370 (by decide +kernel) rfl
theorem tw_1371 : (Cond.selects "KeyPathModel" ({ cls := "KeyPathModel", name := "unsure", desc := "(II)I" } : MethodName) ({ cls := "KeyPathModel", name := "unsure", desc := "(II)I" } : MethodName)) ∈ k_Tg := k_tg 1371 (by decide +kernel) rfl
theorem tw_1372 : (Cond.code ({ cls := "KeyPathModel", name := "unsure", desc := "(II)I" } : MethodName) prog_11_method_64_code (5 : Nat) (Option.some FieldType.int)) ∈ k_Tg := k_tg 1372 (by decide +kernel) rfl
theorem tw_1374 : (Cond.methodLink "KeyPathLaw" (122 : Nat) ({ cls := "KeyPathModel", name := "second", desc := "(I)I" } : MethodName)) ∈ k_Tg := k_tg 1374 (by decide +kernel) rfl
theorem tw_1375 : (Cond.instanceMethod ({ cls := "KeyPathModel", name := "second", desc := "(I)I" } : MethodName)) ∈ k_Tg := k_tg 1375 (by decide +kernel) rfl
theorem tw_1376 : (Cond.selects "KeyPathModel" ({ cls := "KeyPathModel", name := "second", desc := "(I)I" } : MethodName) ({ cls := "KeyPathModel", name := "second", desc := "(I)I" } : MethodName)) ∈ k_Tg := k_tg 1376 (by decide +kernel) rfl
theorem tw_1377 : (Cond.code ({ cls := "KeyPathModel", name := "second", desc := "(I)I" } : MethodName) prog_11_method_65_code (8 : Nat) (Option.some FieldType.int)) ∈ k_Tg := k_tg 1377 (by decide +kernel) rfl
theorem tw_1378 : (Cond.methodLink "KeyPathLaw" (126 : Nat) ({ cls := "KeyPathModel", name := "within", desc := "(I)I" } : MethodName)) ∈ k_Tg := k_tg 1378 (by decide +kernel) rfl
theorem tw_1379 : (Cond.instanceMethod ({ cls := "KeyPathModel", name := "within", desc := "(I)I" } : MethodName)) ∈ k_Tg := k_tg 1379 (by decide +kernel) rfl
theorem tw_1380 : (Cond.selects "KeyPathModel" ({ cls := "KeyPathModel", name := "within", desc := "(I)I" } : MethodName) ({ cls := "KeyPathModel", name := "within", desc := "(I)I" } : MethodName)) ∈ k_Tg := k_tg 1380 (by decide +kernel) rfl
theorem tw_1381 : (Cond.code ({ cls := "KeyPathModel", name := "within", desc := "(I)I" } : MethodName) prog_11_method_68_code (8 : Nat) (Option.some FieldType.int)) ∈ k_Tg := k_tg 1381 (by decide +kernel) rfl
theorem tw_1390 : (Cond.methodLink "KeyPathLaw" (130 : Nat) ({ cls := "KeyPathModel", name := "lasting", desc := "(I)I" } : MethodName)) ∈ k_Tg := k_tg 1390 (by decide +kernel) rfl
theorem tw_1391 : (Cond.instanceMethod ({ cls := "KeyPathModel", name := "lasting", desc := "(I)I" } : MethodName)) ∈ k_Tg := k_tg 1391 (by decide +kernel) rfl
theorem tw_1392 : (Cond.selects "KeyPathModel" ({ cls := "KeyPathModel", name := "lasting", desc := "(I)I" } : MethodName) ({ cls := "KeyPathModel", name := "lasting", desc := "(I)I" } : MethodName)) ∈ k_Tg := k_tg 1392 (by decide +kernel) rfl
theorem tw_1393 : (Cond.code ({ cls := "KeyPathModel", name := "lasting", desc := "(I)I" } : MethodName) prog_11_method_69_code (7 : Nat) (Option.some FieldType.int)) ∈ k_Tg := k_tg 1393 (by decide +kernel) rfl
theorem tw_1395 : (Cond.methodLink "KeyPathLaw" (134 : Nat) ({ cls := "KeyPathModel", name := "firm", desc := "()I" } : MethodName)) ∈ k_Tg := k_tg 1395 (by decide +kernel) rfl
theorem tw_1396 : (Cond.instanceMethod ({ cls := "KeyPathModel", name := "firm", desc := "()I" } : MethodName)) ∈ k_Tg := k_tg 1396 (by decide +kernel) rfl
theorem tw_1397 : (Cond.selects "KeyPathModel" ({ cls := "KeyPathModel", name := "firm", desc := "()I" } : MethodName) ({ cls := "KeyPathModel", name := "firm", desc := "()I" } : MethodName)) ∈ k_Tg := k_tg 1397 (by decide +kernel) rfl
theorem tw_1398 : (Cond.code ({ cls := "KeyPathModel", name := "firm", desc := "()I" } : MethodName) prog_11_method_71_code (3 : Nat) (Option.some FieldType.int)) ∈ k_Tg := k_tg 1398 (by decide +kernel) rfl
theorem tw_1403 : (Cond.methodLink "KeyPathLaw" (138 : Nat) ({ cls := "KeyPathModel", name := "segments", desc := "()I" } : MethodName)) ∈ k_Tg := k_tg 1403 (by decide +kernel) rfl
theorem tw_1404 : (Cond.instanceMethod ({ cls := "KeyPathModel", name := "segments", desc := "()I" } : MethodName)) ∈ k_Tg := k_tg 1404 (by decide +kernel) rfl
theorem tw_1405 : (Cond.selects "KeyPathModel" ({ cls := "KeyPathModel", name := "segments", desc := "()I" } : MethodName) ({ cls := "KeyPathModel", name := "segments", desc := "()I" } : MethodName)) ∈ k_Tg := k_tg 1405 (by decide +kernel) rfl
theorem tw_1406 : (Cond.code ({ cls := "KeyPathModel", name := "segments", desc := "()I" } : MethodName) prog_11_method_72_code (1 : Nat) (Option.some FieldType.int)) ∈ k_Tg := k_tg 1406 (by decide +kernel) rfl
theorem tw_1407 : (Cond.methodLink "KeyPathLaw" (142 : Nat) ({ cls := "KeyPathModel", name := "segment", desc := "(II)I" } : MethodName)) ∈ k_Tg := k_tg 1407 (by decide +kernel) rfl
theorem tw_1408 : (Cond.instanceMethod ({ cls := "KeyPathModel", name := "segment", desc := "(II)I" } : MethodName)) ∈ k_Tg := k_tg 1408 (by decide +kernel) rfl
theorem tw_1409 : (Cond.selects "KeyPathModel" ({ cls := "KeyPathModel", name := "segment", desc := "(II)I" } : MethodName) ({ cls := "KeyPathModel", name := "segment", desc := "(II)I" } : MethodName)) ∈ k_Tg := k_tg 1409 (by decide +kernel) rfl
theorem tw_1410 : (Cond.code ({ cls := "KeyPathModel", name := "segment", desc := "(II)I" } : MethodName) prog_11_method_74_code (4 : Nat) (Option.some FieldType.int)) ∈ k_Tg := k_tg 1410 (by decide +kernel) rfl
theorem tw_1415 : (Cond.methodLink "KeyPathLaw" (178 : Nat) ({ cls := "KeyPathModel", name := "degree", desc := "(II)I" } : MethodName)) ∈ k_Tg := k_tg 1415 (by decide +kernel) rfl
theorem tw_1416 : (Cond.instanceMethod ({ cls := "KeyPathModel", name := "degree", desc := "(II)I" } : MethodName)) ∈ k_Tg := k_tg 1416 (by decide +kernel) rfl
theorem tw_1417 : (Cond.selects "KeyPathModel" ({ cls := "KeyPathModel", name := "degree", desc := "(II)I" } : MethodName) ({ cls := "KeyPathModel", name := "degree", desc := "(II)I" } : MethodName)) ∈ k_Tg := k_tg 1417 (by decide +kernel) rfl
theorem tw_1418 : (Cond.code ({ cls := "KeyPathModel", name := "degree", desc := "(II)I" } : MethodName) prog_11_method_77_code (3 : Nat) (Option.some FieldType.int)) ∈ k_Tg := k_tg 1418 (by decide +kernel) rfl
theorem tw_1426 : (Cond.methodLink "KeyPathLaw" (146 : Nat) ({ cls := "KeyPathModel", name := "pivot", desc := "(II)I" } : MethodName)) ∈ k_Tg := k_tg 1426 (by decide +kernel) rfl
theorem tw_1427 : (Cond.instanceMethod ({ cls := "KeyPathModel", name := "pivot", desc := "(II)I" } : MethodName)) ∈ k_Tg := k_tg 1427 (by decide +kernel) rfl
theorem tw_1428 : (Cond.selects "KeyPathModel" ({ cls := "KeyPathModel", name := "pivot", desc := "(II)I" } : MethodName) ({ cls := "KeyPathModel", name := "pivot", desc := "(II)I" } : MethodName)) ∈ k_Tg := k_tg 1428 (by decide +kernel) rfl
theorem tw_1429 : (Cond.code ({ cls := "KeyPathModel", name := "pivot", desc := "(II)I" } : MethodName) prog_11_method_78_code (9 : Nat) (Option.some FieldType.int)) ∈ k_Tg := k_tg 1429 (by decide +kernel) rfl
theorem tw_1430 : (Cond.methodLink "KeyPathLaw" (174 : Nat) ({ cls := "KeyPathModel", name := "close", desc := "()I" } : MethodName)) ∈ k_Tg := k_tg 1430 (by decide +kernel) rfl
theorem tw_1431 : (Cond.instanceMethod ({ cls := "KeyPathModel", name := "close", desc := "()I" } : MethodName)) ∈ k_Tg := k_tg 1431 (by decide +kernel) rfl
theorem tw_1432 : (Cond.selects "KeyPathModel" ({ cls := "KeyPathModel", name := "close", desc := "()I" } : MethodName) ({ cls := "KeyPathModel", name := "close", desc := "()I" } : MethodName)) ∈ k_Tg := k_tg 1432 (by decide +kernel) rfl
theorem tw_1433 : (Cond.code ({ cls := "KeyPathModel", name := "close", desc := "()I" } : MethodName) prog_11_method_79_code (5 : Nat) (Option.some FieldType.int)) ∈ k_Tg := k_tg 1433 (by decide +kernel) rfl
theorem tw_1434 : (Cond.methodLink "KeyPathLaw" (150 : Nat) ({ cls := "KeyPathModel", name := "roman", desc := "(I)I" } : MethodName)) ∈ k_Tg := k_tg 1434 (by decide +kernel) rfl
theorem tw_1435 : (Cond.instanceMethod ({ cls := "KeyPathModel", name := "roman", desc := "(I)I" } : MethodName)) ∈ k_Tg := k_tg 1435 (by decide +kernel) rfl
theorem tw_1436 : (Cond.selects "KeyPathModel" ({ cls := "KeyPathModel", name := "roman", desc := "(I)I" } : MethodName) ({ cls := "KeyPathModel", name := "roman", desc := "(I)I" } : MethodName)) ∈ k_Tg := k_tg 1436 (by decide +kernel) rfl
theorem tw_1437 : (Cond.code ({ cls := "KeyPathModel", name := "roman", desc := "(I)I" } : MethodName) prog_11_method_81_code (2 : Nat) (Option.some FieldType.int)) ∈ k_Tg := k_tg 1437 (by decide +kernel) rfl
theorem tw_1442 : (Cond.methodLink "KeyPathLaw" (154 : Nat) ({ cls := "KeyPathModel", name := "outside", desc := "()I" } : MethodName)) ∈ k_Tg := k_tg 1442 (by decide +kernel) rfl
theorem tw_1443 : (Cond.instanceMethod ({ cls := "KeyPathModel", name := "outside", desc := "()I" } : MethodName)) ∈ k_Tg := k_tg 1443 (by decide +kernel) rfl
theorem tw_1444 : (Cond.selects "KeyPathModel" ({ cls := "KeyPathModel", name := "outside", desc := "()I" } : MethodName) ({ cls := "KeyPathModel", name := "outside", desc := "()I" } : MethodName)) ∈ k_Tg := k_tg 1444 (by decide +kernel) rfl
theorem tw_1445 : (Cond.code ({ cls := "KeyPathModel", name := "outside", desc := "()I" } : MethodName) prog_11_method_82_code (3 : Nat) (Option.some FieldType.int)) ∈ k_Tg := k_tg 1445 (by decide +kernel) rfl
theorem tw_1446 : (Cond.methodLink "KeyPathLaw" (158 : Nat) ({ cls := "KeyPathModel", name := "progression", desc := "(I)I" } : MethodName)) ∈ k_Tg := k_tg 1446 (by decide +kernel) rfl
theorem tw_1447 : (Cond.instanceMethod ({ cls := "KeyPathModel", name := "progression", desc := "(I)I" } : MethodName)) ∈ k_Tg := k_tg 1447 (by decide +kernel) rfl
theorem tw_1448 : (Cond.selects "KeyPathModel" ({ cls := "KeyPathModel", name := "progression", desc := "(I)I" } : MethodName) ({ cls := "KeyPathModel", name := "progression", desc := "(I)I" } : MethodName)) ∈ k_Tg := k_tg 1448 (by decide +kernel) rfl
theorem tw_1449 : (Cond.code ({ cls := "KeyPathModel", name := "progression", desc := "(I)I" } : MethodName) prog_11_method_83_code (6 : Nat) (Option.some FieldType.int)) ∈ k_Tg := k_tg 1449 (by decide +kernel) rfl
theorem tw_1450 : (Cond.methodLink "KeyPathLaw" (162 : Nat) ({ cls := "KeyPathModel", name := "confirmed", desc := "(I)I" } : MethodName)) ∈ k_Tg := k_tg 1450 (by decide +kernel) rfl
theorem tw_1451 : (Cond.instanceMethod ({ cls := "KeyPathModel", name := "confirmed", desc := "(I)I" } : MethodName)) ∈ k_Tg := k_tg 1451 (by decide +kernel) rfl
theorem tw_1452 : (Cond.selects "KeyPathModel" ({ cls := "KeyPathModel", name := "confirmed", desc := "(I)I" } : MethodName) ({ cls := "KeyPathModel", name := "confirmed", desc := "(I)I" } : MethodName)) ∈ k_Tg := k_tg 1452 (by decide +kernel) rfl
theorem tw_1453 : (Cond.code ({ cls := "KeyPathModel", name := "confirmed", desc := "(I)I" } : MethodName) prog_11_method_85_code (5 : Nat) (Option.some FieldType.int)) ∈ k_Tg := k_tg 1453 (by decide +kernel) rfl
theorem tw_1458 : (Cond.methodLink "KeyPathLaw" (166 : Nat) ({ cls := "KeyPathModel", name := "learnt", desc := "(II)I" } : MethodName)) ∈ k_Tg := k_tg 1458 (by decide +kernel) rfl
theorem tw_1459 : (Cond.instanceMethod ({ cls := "KeyPathModel", name := "learnt", desc := "(II)I" } : MethodName)) ∈ k_Tg := k_tg 1459 (by decide +kernel) rfl
theorem tw_1460 : (Cond.selects "KeyPathModel" ({ cls := "KeyPathModel", name := "learnt", desc := "(II)I" } : MethodName) ({ cls := "KeyPathModel", name := "learnt", desc := "(II)I" } : MethodName)) ∈ k_Tg := k_tg 1460 (by decide +kernel) rfl
theorem tw_1461 : (Cond.code ({ cls := "KeyPathModel", name := "learnt", desc := "(II)I" } : MethodName) prog_11_method_86_code (6 : Nat) (Option.some FieldType.int)) ∈ k_Tg := k_tg 1461 (by decide +kernel) rfl
theorem tw_1462 : (Cond.methodLink "KeyPathLaw" (170 : Nat) ({ cls := "KeyPathModel", name := "foreign", desc := "(II)I" } : MethodName)) ∈ k_Tg := k_tg 1462 (by decide +kernel) rfl
theorem tw_1463 : (Cond.instanceMethod ({ cls := "KeyPathModel", name := "foreign", desc := "(II)I" } : MethodName)) ∈ k_Tg := k_tg 1463 (by decide +kernel) rfl
theorem tw_1464 : (Cond.selects "KeyPathModel" ({ cls := "KeyPathModel", name := "foreign", desc := "(II)I" } : MethodName) ({ cls := "KeyPathModel", name := "foreign", desc := "(II)I" } : MethodName)) ∈ k_Tg := k_tg 1464 (by decide +kernel) rfl
theorem tw_1465 : (Cond.code ({ cls := "KeyPathModel", name := "foreign", desc := "(II)I" } : MethodName) prog_11_method_88_code (5 : Nat) (Option.some FieldType.int)) ∈ k_Tg := k_tg 1465 (by decide +kernel) rfl
theorem tw_1469 : (Cond.methodLink "KeyPathLaw" (182 : Nat) ({ cls := "KeyPathModel", name := "name", desc := "(II)I" } : MethodName)) ∈ k_Tg := k_tg 1469 (by decide +kernel) rfl
theorem tw_1470 : (Cond.instanceMethod ({ cls := "KeyPathModel", name := "name", desc := "(II)I" } : MethodName)) ∈ k_Tg := k_tg 1470 (by decide +kernel) rfl
theorem tw_1471 : (Cond.selects "KeyPathModel" ({ cls := "KeyPathModel", name := "name", desc := "(II)I" } : MethodName) ({ cls := "KeyPathModel", name := "name", desc := "(II)I" } : MethodName)) ∈ k_Tg := k_tg 1471 (by decide +kernel) rfl
theorem tw_1472 : (Cond.code ({ cls := "KeyPathModel", name := "name", desc := "(II)I" } : MethodName) prog_11_method_90_code (5 : Nat) (Option.some FieldType.int)) ∈ k_Tg := k_tg 1472 (by decide +kernel) rfl
theorem tw_1476 : (Cond.methodLink "KeyPathLaw" (186 : Nat) ({ cls := "KeyPathModel", name := "count", desc := "(I)I" } : MethodName)) ∈ k_Tg := k_tg 1476 (by decide +kernel) rfl
theorem tw_1477 : (Cond.instanceMethod ({ cls := "KeyPathModel", name := "count", desc := "(I)I" } : MethodName)) ∈ k_Tg := k_tg 1477 (by decide +kernel) rfl
theorem tw_1478 : (Cond.selects "KeyPathModel" ({ cls := "KeyPathModel", name := "count", desc := "(I)I" } : MethodName) ({ cls := "KeyPathModel", name := "count", desc := "(I)I" } : MethodName)) ∈ k_Tg := k_tg 1478 (by decide +kernel) rfl
theorem tw_1479 : (Cond.code ({ cls := "KeyPathModel", name := "count", desc := "(I)I" } : MethodName) prog_11_method_91_code (4 : Nat) (Option.some FieldType.int)) ∈ k_Tg := k_tg 1479 (by decide +kernel) rfl
theorem cl_164 {X : KC} {d n : Nat} {cc : ByteArray} {pc : Nat} {L : List (Option KV)} {st : List KV} {σ : KM} {Z : Type} {Θ : Z → Prop} {G : Int → KM → Option Z} {x1 x2 x3 x4 x5 : Int} (hX : kOk X d cc n "KeyPathLaw") (hdd : 2 + 1 ≤ d) (hst : k_cat st ≤ 8) (hd : decode cc pc = .ok (.invokevirtual 13, 3)) (h : ∀ r τ, kJ X (pc + 3) L (ki r :: st) τ (G r τ) Θ) : kJ X pc L (ki x5 :: ki x4 :: ki x3 :: ki x2 :: ki x1 :: kr 0 :: st) σ (kCall (fP_feed x1 x2 x3 x4 x5 σ) G) Θ :=
  k_callV (np := 5) (av := [ki x1, ki x2, ki x3, ki x4, ki x5]) (ret := (some .int)) hX (by decide) rfl rfl rfl (sP_feed _ _ _ _ _ σ) ⟨⟨hdd, by decide⟩, tw_365, tw_1, by decide +kernel⟩ rfl tw_362 tw_363 tw_364 hst hd h
theorem cl_165 {X : KC} {d n : Nat} {cc : ByteArray} {pc : Nat} {L : List (Option KV)} {st : List KV} {σ : KM} {Z : Type} {Θ : Z → Prop} {G : Int → KM → Option Z} {x1 x2 x3 x4 x5 : Int} (hX : kOk X d cc n "KeyPathLaw") (hdd : 1 + 1 ≤ d) (hst : k_cat st ≤ 8) (hd : decode cc pc = .ok (.invokevirtual 17, 3)) (h : ∀ r τ, kJ X (pc + 3) L (ki r :: st) τ (G r τ) Θ) : kJ X pc L (ki x5 :: ki x4 :: ki x3 :: ki x2 :: ki x1 :: kr 10 :: st) σ (kCall (fM_feed x1 x2 x3 x4 x5 σ) G) Θ :=
  k_callV (np := 5) (av := [ki x1, ki x2, ki x3, ki x4, ki x5]) (ret := (some .int)) hX (by decide) rfl rfl rfl (sM_feed _ _ _ _ _ σ) ⟨⟨hdd, by decide⟩, tw_1117, tw_11, by decide +kernel⟩ rfl tw_1114 tw_1115 tw_1116 hst hd h
theorem cl_166 {X : KC} {d n : Nat} {cc : ByteArray} {pc : Nat} {L : List (Option KV)} {st : List KV} {σ : KM} {Z : Type} {Θ : Z → Prop} {G : Int → KM → Option Z} {x1 : Int} (hX : kOk X d cc n "KeyPathLaw") (hdd : 7 + 1 ≤ d) (hst : k_cat st ≤ 8) (hd : decode cc pc = .ok (.invokevirtual 18, 3)) (h : ∀ r τ, kJ X (pc + 3) L (ki r :: st) τ (G r τ) Θ) : kJ X pc L (ki x1 :: kr 0 :: st) σ (kCall (fP_load x1 σ) G) Θ :=
  k_callV (np := 1) (av := [ki x1]) (ret := (some .int)) hX (by decide) rfl rfl rfl (sP_load _ σ) ⟨⟨hdd, by decide⟩, tw_373, tw_1, by decide +kernel⟩ rfl tw_370 tw_371 tw_372 hst hd h
theorem cl_167 {X : KC} {d n : Nat} {cc : ByteArray} {pc : Nat} {L : List (Option KV)} {st : List KV} {σ : KM} {Z : Type} {Θ : Z → Prop} {G : Int → KM → Option Z} {x1 : Int} (hX : kOk X d cc n "KeyPathLaw") (hdd : 5 + 1 ≤ d) (hst : k_cat st ≤ 8) (hd : decode cc pc = .ok (.invokevirtual 22, 3)) (h : ∀ r τ, kJ X (pc + 3) L (ki r :: st) τ (G r τ) Θ) : kJ X pc L (ki x1 :: kr 10 :: st) σ (kCall (fM_load x1 σ) G) Θ :=
  k_callV (np := 1) (av := [ki x1]) (ret := (some .int)) hX (by decide) rfl rfl rfl (sM_load _ σ) ⟨⟨hdd, by decide⟩, tw_1121, tw_11, by decide +kernel⟩ rfl tw_1118 tw_1119 tw_1120 hst hd h
theorem cl_168 {X : KC} {d n : Nat} {cc : ByteArray} {pc : Nat} {L : List (Option KV)} {st : List KV} {σ : KM} {Z : Type} {Θ : Z → Prop} {G : Int → KM → Option Z} {x1 : Int} (hX : kOk X d cc n "KeyPathLaw") (hdd : 1 + 1 ≤ d) (hst : k_cat st ≤ 8) (hd : decode cc pc = .ok (.invokevirtual 23, 3)) (h : ∀ r τ, kJ X (pc + 3) L (ki r :: st) τ (G r τ) Θ) : kJ X pc L (ki x1 :: kr 0 :: st) σ (kCall (fP_fault x1 σ) G) Θ :=
  k_callV (np := 1) (av := [ki x1]) (ret := (some .int)) hX (by decide) rfl rfl rfl (sP_fault _ σ) ⟨⟨hdd, by decide⟩, tw_470, tw_1, by decide +kernel⟩ rfl tw_467 tw_468 tw_469 hst hd h
theorem cl_169 {X : KC} {d n : Nat} {cc : ByteArray} {pc : Nat} {L : List (Option KV)} {st : List KV} {σ : KM} {Z : Type} {Θ : Z → Prop} {G : Int → KM → Option Z} {x1 : Int} (hX : kOk X d cc n "KeyPathLaw") (hdd : 1 + 1 ≤ d) (hst : k_cat st ≤ 8) (hd : decode cc pc = .ok (.invokevirtual 26, 3)) (h : ∀ r τ, kJ X (pc + 3) L (ki r :: st) τ (G r τ) Θ) : kJ X pc L (ki x1 :: kr 10 :: st) σ (kCall (fM_fault x1 σ) G) Θ :=
  k_callV (np := 1) (av := [ki x1]) (ret := (some .int)) hX (by decide) rfl rfl rfl (sM_fault _ σ) ⟨⟨hdd, by decide⟩, tw_1169, tw_11, by decide +kernel⟩ rfl tw_1166 tw_1167 tw_1168 hst hd h
theorem cl_170 {X : KC} {d n : Nat} {cc : ByteArray} {pc : Nat} {L : List (Option KV)} {st : List KV} {σ : KM} {Z : Type} {Θ : Z → Prop} {G : Int → KM → Option Z} {x1 x2 x3 : Int} (hX : kOk X d cc n "KeyPathLaw") (hdd : 4 + 1 ≤ d) (hst : k_cat st ≤ 8) (hd : decode cc pc = .ok (.invokevirtual 27, 3)) (h : ∀ r τ, kJ X (pc + 3) L (ki r :: st) τ (G r τ) Θ) : kJ X pc L (ki x3 :: ki x2 :: ki x1 :: kr 0 :: st) σ (kCall (fP_put x1 x2 x3 σ) G) Θ :=
  k_callV (np := 3) (av := [ki x1, ki x2, ki x3]) (ret := (some .int)) hX (by decide) rfl rfl rfl (sP_put _ _ _ σ) ⟨⟨hdd, by decide⟩, tw_474, tw_1, by decide +kernel⟩ rfl tw_471 tw_472 tw_473 hst hd h
theorem cl_171 {X : KC} {d n : Nat} {cc : ByteArray} {pc : Nat} {L : List (Option KV)} {st : List KV} {σ : KM} {Z : Type} {Θ : Z → Prop} {G : Int → KM → Option Z} {x1 x2 x3 : Int} (hX : kOk X d cc n "KeyPathLaw") (hdd : 2 + 1 ≤ d) (hst : k_cat st ≤ 8) (hd : decode cc pc = .ok (.invokevirtual 31, 3)) (h : ∀ r τ, kJ X (pc + 3) L (ki r :: st) τ (G r τ) Θ) : kJ X pc L (ki x3 :: ki x2 :: ki x1 :: kr 10 :: st) σ (kCall (fM_put x1 x2 x3 σ) G) Θ :=
  k_callV (np := 3) (av := [ki x1, ki x2, ki x3]) (ret := (some .int)) hX (by decide) rfl rfl rfl (sM_put _ _ _ σ) ⟨⟨hdd, by decide⟩, tw_1173, tw_11, by decide +kernel⟩ rfl tw_1170 tw_1171 tw_1172 hst hd h
theorem cl_172 {X : KC} {d n : Nat} {cc : ByteArray} {pc : Nat} {L : List (Option KV)} {st : List KV} {σ : KM} {Z : Type} {Θ : Z → Prop} {G : Int → KM → Option Z} {x1 : Int} (hX : kOk X d cc n "KeyPathLaw") (hdd : 4 + 1 ≤ d) (hst : k_cat st ≤ 8) (hd : decode cc pc = .ok (.invokevirtual 32, 3)) (h : ∀ r τ, kJ X (pc + 3) L (ki r :: st) τ (G r τ) Θ) : kJ X pc L (ki x1 :: kr 0 :: st) σ (kCall (fP_drop x1 σ) G) Θ :=
  k_callV (np := 1) (av := [ki x1]) (ret := (some .int)) hX (by decide) rfl rfl rfl (sP_drop _ σ) ⟨⟨hdd, by decide⟩, tw_492, tw_1, by decide +kernel⟩ rfl tw_489 tw_490 tw_491 hst hd h
theorem cl_173 {X : KC} {d n : Nat} {cc : ByteArray} {pc : Nat} {L : List (Option KV)} {st : List KV} {σ : KM} {Z : Type} {Θ : Z → Prop} {G : Int → KM → Option Z} {x1 : Int} (hX : kOk X d cc n "KeyPathLaw") (hdd : 3 + 1 ≤ d) (hst : k_cat st ≤ 8) (hd : decode cc pc = .ok (.invokevirtual 35, 3)) (h : ∀ r τ, kJ X (pc + 3) L (ki r :: st) τ (G r τ) Θ) : kJ X pc L (ki x1 :: kr 10 :: st) σ (kCall (fM_drop x1 σ) G) Θ :=
  k_callV (np := 1) (av := [ki x1]) (ret := (some .int)) hX (by decide) rfl rfl rfl (sM_drop _ σ) ⟨⟨hdd, by decide⟩, tw_1182, tw_11, by decide +kernel⟩ rfl tw_1179 tw_1180 tw_1181 hst hd h
theorem cl_174 {X : KC} {d n : Nat} {cc : ByteArray} {pc : Nat} {L : List (Option KV)} {st : List KV} {σ : KM} {Z : Type} {Θ : Z → Prop} {G : Int → KM → Option Z} {x1 : Int} (hX : kOk X d cc n "KeyPathLaw") (hdd : 4 + 1 ≤ d) (hst : k_cat st ≤ 8) (hd : decode cc pc = .ok (.invokevirtual 36, 3)) (h : ∀ r τ, kJ X (pc + 3) L (ki r :: st) τ (G r τ) Θ) : kJ X pc L (ki x1 :: kr 0 :: st) σ (kCall (fP_shift x1 σ) G) Θ :=
  k_callV (np := 1) (av := [ki x1]) (ret := (some .int)) hX (by decide) rfl rfl rfl (sP_shift _ σ) ⟨⟨hdd, by decide⟩, tw_500, tw_1, by decide +kernel⟩ rfl tw_497 tw_498 tw_499 hst hd h
theorem cl_175 {X : KC} {d n : Nat} {cc : ByteArray} {pc : Nat} {L : List (Option KV)} {st : List KV} {σ : KM} {Z : Type} {Θ : Z → Prop} {G : Int → KM → Option Z} {x1 : Int} (hX : kOk X d cc n "KeyPathLaw") (hdd : 2 + 1 ≤ d) (hst : k_cat st ≤ 8) (hd : decode cc pc = .ok (.invokevirtual 39, 3)) (h : ∀ r τ, kJ X (pc + 3) L (ki r :: st) τ (G r τ) Θ) : kJ X pc L (ki x1 :: kr 10 :: st) σ (kCall (fM_shift x1 σ) G) Θ :=
  k_callV (np := 1) (av := [ki x1]) (ret := (some .int)) hX (by decide) rfl rfl rfl (sM_shift _ σ) ⟨⟨hdd, by decide⟩, tw_1190, tw_11, by decide +kernel⟩ rfl tw_1187 tw_1188 tw_1189 hst hd h
theorem cl_176 {X : KC} {d n : Nat} {cc : ByteArray} {pc : Nat} {L : List (Option KV)} {st : List KV} {σ : KM} {Z : Type} {Θ : Z → Prop} {G : Int → KM → Option Z} (hX : kOk X d cc n "KeyPathLaw") (hdd : 4 + 1 ≤ d) (hst : k_cat st ≤ 8) (hd : decode cc pc = .ok (.invokevirtual 40, 3)) (h : ∀ r τ, kJ X (pc + 3) L (ki r :: st) τ (G r τ) Θ) : kJ X pc L (kr 0 :: st) σ (kCall (fP_undo σ) G) Θ :=
  k_callV (np := 0) (av := []) (ret := (some .int)) hX (by decide) rfl rfl rfl (sP_undo σ) ⟨⟨hdd, by decide⟩, tw_513, tw_1, by decide +kernel⟩ rfl tw_510 tw_511 tw_512 hst hd h
theorem cl_177 {X : KC} {d n : Nat} {cc : ByteArray} {pc : Nat} {L : List (Option KV)} {st : List KV} {σ : KM} {Z : Type} {Θ : Z → Prop} {G : Int → KM → Option Z} (hX : kOk X d cc n "KeyPathLaw") (hdd : 1 + 1 ≤ d) (hst : k_cat st ≤ 8) (hd : decode cc pc = .ok (.invokevirtual 44, 3)) (h : ∀ r τ, kJ X (pc + 3) L (ki r :: st) τ (G r τ) Θ) : kJ X pc L (kr 10 :: st) σ (kCall (fM_undo σ) G) Θ :=
  k_callV (np := 0) (av := []) (ret := (some .int)) hX (by decide) rfl rfl rfl (sM_undo σ) ⟨⟨hdd, by decide⟩, tw_1195, tw_11, by decide +kernel⟩ rfl tw_1192 tw_1193 tw_1194 hst hd h
theorem cl_178 {X : KC} {d n : Nat} {cc : ByteArray} {pc : Nat} {L : List (Option KV)} {st : List KV} {σ : KM} {Z : Type} {Θ : Z → Prop} {G : Int → KM → Option Z} {x1 x2 : Int} (hX : kOk X d cc n "KeyPathLaw") (hdd : 1 + 1 ≤ d) (hst : k_cat st ≤ 8) (hd : decode cc pc = .ok (.invokevirtual 45, 3)) (h : ∀ r τ, kJ X (pc + 3) L (ki r :: st) τ (G r τ) Θ) : kJ X pc L (ki x2 :: ki x1 :: kr 0 :: st) σ (kCall (fP_note x1 x2 σ) G) Θ :=
  k_callV (np := 2) (av := [ki x1, ki x2]) (ret := (some .int)) hX (by decide) rfl rfl rfl (sP_note _ _ σ) ⟨⟨hdd, by decide⟩, tw_524, tw_1, by decide +kernel⟩ rfl tw_521 tw_522 tw_523 hst hd h
theorem cl_179 {X : KC} {d n : Nat} {cc : ByteArray} {pc : Nat} {L : List (Option KV)} {st : List KV} {σ : KM} {Z : Type} {Θ : Z → Prop} {G : Int → KM → Option Z} {x1 x2 : Int} (hX : kOk X d cc n "KeyPathLaw") (hdd : 3 + 1 ≤ d) (hst : k_cat st ≤ 8) (hd : decode cc pc = .ok (.invokevirtual 49, 3)) (h : ∀ r τ, kJ X (pc + 3) L (ki r :: st) τ (G r τ) Θ) : kJ X pc L (ki x2 :: ki x1 :: kr 10 :: st) σ (kCall (fM_note x1 x2 σ) G) Θ :=
  k_callV (np := 2) (av := [ki x1, ki x2]) (ret := (some .int)) hX (by decide) rfl rfl rfl (sM_note _ _ σ) ⟨⟨hdd, by decide⟩, tw_1199, tw_11, by decide +kernel⟩ rfl tw_1196 tw_1197 tw_1198 hst hd h
theorem cl_180 {X : KC} {d n : Nat} {cc : ByteArray} {pc : Nat} {L : List (Option KV)} {st : List KV} {σ : KM} {Z : Type} {Θ : Z → Prop} {G : Int → KM → Option Z} {x1 x2 : Int} (hX : kOk X d cc n "KeyPathLaw") (hdd : 6 + 1 ≤ d) (hst : k_cat st ≤ 8) (hd : decode cc pc = .ok (.invokevirtual 50, 3)) (h : ∀ r τ, kJ X (pc + 3) L (ki r :: st) τ (G r τ) Θ) : kJ X pc L (ki x2 :: ki x1 :: kr 0 :: st) σ (kCall (fP_windows x1 x2 σ) G) Θ :=
  k_callV (np := 2) (av := [ki x1, ki x2]) (ret := (some .int)) hX (by decide) rfl rfl rfl (sP_windows _ _ σ) ⟨⟨hdd, by decide⟩, tw_528, tw_1, by decide +kernel⟩ rfl tw_525 tw_526 tw_527 hst hd h
theorem cl_181 {X : KC} {d n : Nat} {cc : ByteArray} {pc : Nat} {L : List (Option KV)} {st : List KV} {σ : KM} {Z : Type} {Θ : Z → Prop} {G : Int → KM → Option Z} {x1 x2 : Int} (hX : kOk X d cc n "KeyPathLaw") (hdd : 4 + 1 ≤ d) (hst : k_cat st ≤ 8) (hd : decode cc pc = .ok (.invokevirtual 53, 3)) (h : ∀ r τ, kJ X (pc + 3) L (ki r :: st) τ (G r τ) Θ) : kJ X pc L (ki x2 :: ki x1 :: kr 10 :: st) σ (kCall (fM_windows x1 x2 σ) G) Θ :=
  k_callV (np := 2) (av := [ki x1, ki x2]) (ret := (some .int)) hX (by decide) rfl rfl rfl (sM_windows _ _ σ) ⟨⟨hdd, by decide⟩, tw_1204, tw_11, by decide +kernel⟩ rfl tw_1201 tw_1202 tw_1203 hst hd h
theorem cl_182 {X : KC} {d n : Nat} {cc : ByteArray} {pc : Nat} {L : List (Option KV)} {st : List KV} {σ : KM} {Z : Type} {Θ : Z → Prop} {G : Int → KM → Option Z} {x1 x2 x3 : Int} (hX : kOk X d cc n "KeyPathLaw") (hdd : 3 + 1 ≤ d) (hst : k_cat st ≤ 8) (hd : decode cc pc = .ok (.invokevirtual 54, 3)) (h : ∀ r τ, kJ X (pc + 3) L (ki r :: st) τ (G r τ) Θ) : kJ X pc L (ki x3 :: ki x2 :: ki x1 :: kr 0 :: st) σ (kCall (fP_weight x1 x2 x3 σ) G) Θ :=
  k_callV (np := 3) (av := [ki x1, ki x2, ki x3]) (ret := (some .int)) hX (by decide) rfl rfl rfl (sP_weight _ _ _ σ) ⟨⟨hdd, by decide⟩, tw_576, tw_1, by decide +kernel⟩ rfl tw_573 tw_574 tw_575 hst hd h
theorem cl_183 {X : KC} {d n : Nat} {cc : ByteArray} {pc : Nat} {L : List (Option KV)} {st : List KV} {σ : KM} {Z : Type} {Θ : Z → Prop} {G : Int → KM → Option Z} {x1 x2 x3 : Int} (hX : kOk X d cc n "KeyPathLaw") (hdd : 2 + 1 ≤ d) (hst : k_cat st ≤ 8) (hd : decode cc pc = .ok (.invokevirtual 57, 3)) (h : ∀ r τ, kJ X (pc + 3) L (ki r :: st) τ (G r τ) Θ) : kJ X pc L (ki x3 :: ki x2 :: ki x1 :: kr 10 :: st) σ (kCall (fM_weight x1 x2 x3 σ) G) Θ :=
  k_callV (np := 3) (av := [ki x1, ki x2, ki x3]) (ret := (some .int)) hX (by decide) rfl rfl rfl (sM_weight _ _ _ σ) ⟨⟨hdd, by decide⟩, tw_1222, tw_11, by decide +kernel⟩ rfl tw_1219 tw_1220 tw_1221 hst hd h
theorem cl_184 {X : KC} {d n : Nat} {cc : ByteArray} {pc : Nat} {L : List (Option KV)} {st : List KV} {σ : KM} {Z : Type} {Θ : Z → Prop} {G : Int → KM → Option Z} {x1 x2 x3 x4 : Int} (hX : kOk X d cc n "KeyPathLaw") (hdd : 2 + 1 ≤ d) (hst : k_cat st ≤ 8) (hd : decode cc pc = .ok (.invokevirtual 58, 3)) (h : ∀ r τ, kJ X (pc + 3) L (ki r :: st) τ (G r τ) Θ) : kJ X pc L (ki x4 :: ki x3 :: ki x2 :: ki x1 :: kr 0 :: st) σ (kCall (fP_net x1 x2 x3 x4 σ) G) Θ :=
  k_callV (np := 4) (av := [ki x1, ki x2, ki x3, ki x4]) (ret := (some .int)) hX (by decide) rfl rfl rfl (sP_net _ _ _ _ σ) ⟨⟨hdd, by decide⟩, tw_586, tw_1, by decide +kernel⟩ rfl tw_583 tw_584 tw_585 hst hd h
theorem cl_185 {X : KC} {d n : Nat} {cc : ByteArray} {pc : Nat} {L : List (Option KV)} {st : List KV} {σ : KM} {Z : Type} {Θ : Z → Prop} {G : Int → KM → Option Z} {x1 x2 x3 x4 : Int} (hX : kOk X d cc n "KeyPathLaw") (hdd : 2 + 1 ≤ d) (hst : k_cat st ≤ 8) (hd : decode cc pc = .ok (.invokevirtual 62, 3)) (h : ∀ r τ, kJ X (pc + 3) L (ki r :: st) τ (G r τ) Θ) : kJ X pc L (ki x4 :: ki x3 :: ki x2 :: ki x1 :: kr 10 :: st) σ (kCall (fM_net x1 x2 x3 x4 σ) G) Θ :=
  k_callV (np := 4) (av := [ki x1, ki x2, ki x3, ki x4]) (ret := (some .int)) hX (by decide) rfl rfl rfl (sM_net _ _ _ _ σ) ⟨⟨hdd, by decide⟩, tw_1231, tw_11, by decide +kernel⟩ rfl tw_1228 tw_1229 tw_1230 hst hd h
theorem cl_186 {X : KC} {d n : Nat} {cc : ByteArray} {pc : Nat} {L : List (Option KV)} {st : List KV} {σ : KM} {Z : Type} {Θ : Z → Prop} {G : Int → KM → Option Z} {x1 x2 : Int} (hX : kOk X d cc n "KeyPathLaw") (hdd : 3 + 1 ≤ d) (hst : k_cat st ≤ 8) (hd : decode cc pc = .ok (.invokevirtual 63, 3)) (h : ∀ r τ, kJ X (pc + 3) L (ki r :: st) τ (G r τ) Θ) : kJ X pc L (ki x2 :: ki x1 :: kr 0 :: st) σ (kCall (fP_pin x1 x2 σ) G) Θ :=
  k_callV (np := 2) (av := [ki x1, ki x2]) (ret := (some .int)) hX (by decide) rfl rfl rfl (sP_pin _ _ σ) ⟨⟨hdd, by decide⟩, tw_590, tw_1, by decide +kernel⟩ rfl tw_587 tw_588 tw_589 hst hd h
theorem cl_187 {X : KC} {d n : Nat} {cc : ByteArray} {pc : Nat} {L : List (Option KV)} {st : List KV} {σ : KM} {Z : Type} {Θ : Z → Prop} {G : Int → KM → Option Z} {x1 x2 : Int} (hX : kOk X d cc n "KeyPathLaw") (hdd : 3 + 1 ≤ d) (hst : k_cat st ≤ 8) (hd : decode cc pc = .ok (.invokevirtual 66, 3)) (h : ∀ r τ, kJ X (pc + 3) L (ki r :: st) τ (G r τ) Θ) : kJ X pc L (ki x2 :: ki x1 :: kr 10 :: st) σ (kCall (fM_pin x1 x2 σ) G) Θ :=
  k_callV (np := 2) (av := [ki x1, ki x2]) (ret := (some .int)) hX (by decide) rfl rfl rfl (sM_pin _ _ σ) ⟨⟨hdd, by decide⟩, tw_1237, tw_11, by decide +kernel⟩ rfl tw_1234 tw_1235 tw_1236 hst hd h
theorem cl_188 {X : KC} {d n : Nat} {cc : ByteArray} {pc : Nat} {L : List (Option KV)} {st : List KV} {σ : KM} {Z : Type} {Θ : Z → Prop} {G : Int → KM → Option Z} {x1 x2 : Int} (hX : kOk X d cc n "KeyPathLaw") (hdd : 7 + 1 ≤ d) (hst : k_cat st ≤ 8) (hd : decode cc pc = .ok (.invokevirtual 67, 3)) (h : ∀ r τ, kJ X (pc + 3) L (ki r :: st) τ (G r τ) Θ) : kJ X pc L (ki x2 :: ki x1 :: kr 0 :: st) σ (kCall (fP_tones x1 x2 σ) G) Θ :=
  k_callV (np := 2) (av := [ki x1, ki x2]) (ret := (some .int)) hX (by decide) rfl rfl rfl (sP_tones _ _ σ) ⟨⟨hdd, by decide⟩, tw_597, tw_1, by decide +kernel⟩ rfl tw_594 tw_595 tw_596 hst hd h
theorem cl_189 {X : KC} {d n : Nat} {cc : ByteArray} {pc : Nat} {L : List (Option KV)} {st : List KV} {σ : KM} {Z : Type} {Θ : Z → Prop} {G : Int → KM → Option Z} {x1 x2 : Int} (hX : kOk X d cc n "KeyPathLaw") (hdd : 5 + 1 ≤ d) (hst : k_cat st ≤ 8) (hd : decode cc pc = .ok (.invokevirtual 70, 3)) (h : ∀ r τ, kJ X (pc + 3) L (ki r :: st) τ (G r τ) Θ) : kJ X pc L (ki x2 :: ki x1 :: kr 10 :: st) σ (kCall (fM_tones x1 x2 σ) G) Θ :=
  k_callV (np := 2) (av := [ki x1, ki x2]) (ret := (some .int)) hX (by decide) rfl rfl rfl (sM_tones _ _ σ) ⟨⟨hdd, by decide⟩, tw_1246, tw_11, by decide +kernel⟩ rfl tw_1243 tw_1244 tw_1245 hst hd h
theorem cl_190 {X : KC} {d n : Nat} {cc : ByteArray} {pc : Nat} {L : List (Option KV)} {st : List KV} {σ : KM} {Z : Type} {Θ : Z → Prop} {G : Int → KM → Option Z} {x1 x2 x3 : Int} (hX : kOk X d cc n "KeyPathLaw") (hdd : 7 + 1 ≤ d) (hst : k_cat st ≤ 8) (hd : decode cc pc = .ok (.invokevirtual 71, 3)) (h : ∀ r τ, kJ X (pc + 3) L (ki r :: st) τ (G r τ) Θ) : kJ X pc L (ki x3 :: ki x2 :: ki x1 :: kr 0 :: st) σ (kCall (fP_match x1 x2 x3 σ) G) Θ :=
  k_callV (np := 3) (av := [ki x1, ki x2, ki x3]) (ret := (some .int)) hX (by decide) rfl rfl rfl (sP_match _ _ _ σ) ⟨⟨hdd, by decide⟩, tw_605, tw_1, by decide +kernel⟩ rfl tw_602 tw_603 tw_604 hst hd h
theorem cl_191 {X : KC} {d n : Nat} {cc : ByteArray} {pc : Nat} {L : List (Option KV)} {st : List KV} {σ : KM} {Z : Type} {Θ : Z → Prop} {G : Int → KM → Option Z} {x1 x2 x3 : Int} (hX : kOk X d cc n "KeyPathLaw") (hdd : 42 + 1 ≤ d) (hst : k_cat st ≤ 8) (hd : decode cc pc = .ok (.invokevirtual 74, 3)) (h : ∀ r τ, kJ X (pc + 3) L (ki r :: st) τ (G r τ) Θ) : kJ X pc L (ki x3 :: ki x2 :: ki x1 :: kr 10 :: st) σ (kCall (fM_match x1 x2 x3 σ) G) Θ :=
  k_callV (np := 3) (av := [ki x1, ki x2, ki x3]) (ret := (some .int)) hX (by decide) rfl rfl rfl (sM_match _ _ _ σ) ⟨⟨hdd, by decide⟩, tw_1262, tw_11, by decide +kernel⟩ rfl tw_1259 tw_1260 tw_1261 hst hd h
theorem cl_192 {X : KC} {d n : Nat} {cc : ByteArray} {pc : Nat} {L : List (Option KV)} {st : List KV} {σ : KM} {Z : Type} {Θ : Z → Prop} {G : Int → KM → Option Z} {x1 x2 : Int} (hX : kOk X d cc n "KeyPathLaw") (hdd : 7 + 1 ≤ d) (hst : k_cat st ≤ 8) (hd : decode cc pc = .ok (.invokevirtual 75, 3)) (h : ∀ r τ, kJ X (pc + 3) L (ki r :: st) τ (G r τ) Θ) : kJ X pc L (ki x2 :: ki x1 :: kr 0 :: st) σ (kCall (fP_fit x1 x2 σ) G) Θ :=
  k_callV (np := 2) (av := [ki x1, ki x2]) (ret := (some .int)) hX (by decide) rfl rfl rfl (sP_fit _ _ σ) ⟨⟨hdd, by decide⟩, tw_619, tw_1, by decide +kernel⟩ rfl tw_616 tw_617 tw_618 hst hd h
theorem cl_193 {X : KC} {d n : Nat} {cc : ByteArray} {pc : Nat} {L : List (Option KV)} {st : List KV} {σ : KM} {Z : Type} {Θ : Z → Prop} {G : Int → KM → Option Z} {x1 x2 : Int} (hX : kOk X d cc n "KeyPathLaw") (hdd : 5 + 1 ≤ d) (hst : k_cat st ≤ 8) (hd : decode cc pc = .ok (.invokevirtual 78, 3)) (h : ∀ r τ, kJ X (pc + 3) L (ki r :: st) τ (G r τ) Θ) : kJ X pc L (ki x2 :: ki x1 :: kr 10 :: st) σ (kCall (fM_fit x1 x2 σ) G) Θ :=
  k_callV (np := 2) (av := [ki x1, ki x2]) (ret := (some .int)) hX (by decide) rfl rfl rfl (sM_fit _ _ σ) ⟨⟨hdd, by decide⟩, tw_1273, tw_11, by decide +kernel⟩ rfl tw_1270 tw_1271 tw_1272 hst hd h
theorem cl_194 {X : KC} {d n : Nat} {cc : ByteArray} {pc : Nat} {L : List (Option KV)} {st : List KV} {σ : KM} {Z : Type} {Θ : Z → Prop} {G : Int → KM → Option Z} {x1 x2 : Int} (hX : kOk X d cc n "KeyPathLaw") (hdd : 7 + 1 ≤ d) (hst : k_cat st ≤ 8) (hd : decode cc pc = .ok (.invokevirtual 79, 3)) (h : ∀ r τ, kJ X (pc + 3) L (ki r :: st) τ (G r τ) Θ) : kJ X pc L (ki x2 :: ki x1 :: kr 0 :: st) σ (kCall (fP_ranked x1 x2 σ) G) Θ :=
  k_callV (np := 2) (av := [ki x1, ki x2]) (ret := (some .int)) hX (by decide) rfl rfl rfl (sP_ranked _ _ σ) ⟨⟨hdd, by decide⟩, tw_637, tw_1, by decide +kernel⟩ rfl tw_634 tw_635 tw_636 hst hd h
theorem cl_195 {X : KC} {d n : Nat} {cc : ByteArray} {pc : Nat} {L : List (Option KV)} {st : List KV} {σ : KM} {Z : Type} {Θ : Z → Prop} {G : Int → KM → Option Z} {x1 x2 : Int} (hX : kOk X d cc n "KeyPathLaw") (hdd : 5 + 1 ≤ d) (hst : k_cat st ≤ 8) (hd : decode cc pc = .ok (.invokevirtual 82, 3)) (h : ∀ r τ, kJ X (pc + 3) L (ki r :: st) τ (G r τ) Θ) : kJ X pc L (ki x2 :: ki x1 :: kr 10 :: st) σ (kCall (fM_ranked x1 x2 σ) G) Θ :=
  k_callV (np := 2) (av := [ki x1, ki x2]) (ret := (some .int)) hX (by decide) rfl rfl rfl (sM_ranked _ _ σ) ⟨⟨hdd, by decide⟩, tw_1281, tw_11, by decide +kernel⟩ rfl tw_1278 tw_1279 tw_1280 hst hd h
theorem cl_196 {X : KC} {d n : Nat} {cc : ByteArray} {pc : Nat} {L : List (Option KV)} {st : List KV} {σ : KM} {Z : Type} {Θ : Z → Prop} {G : Int → KM → Option Z} {x1 : Int} (hX : kOk X d cc n "KeyPathLaw") (hdd : 7 + 1 ≤ d) (hst : k_cat st ≤ 8) (hd : decode cc pc = .ok (.invokevirtual 83, 3)) (h : ∀ r τ, kJ X (pc + 3) L (ki r :: st) τ (G r τ) Θ) : kJ X pc L (ki x1 :: kr 0 :: st) σ (kCall (fP_overall x1 σ) G) Θ :=
  k_callV (np := 1) (av := [ki x1]) (ret := (some .int)) hX (by decide) rfl rfl rfl (sP_overall _ σ) ⟨⟨hdd, by decide⟩, tw_649, tw_1, by decide +kernel⟩ rfl tw_646 tw_647 tw_648 hst hd h
theorem cl_197 {X : KC} {d n : Nat} {cc : ByteArray} {pc : Nat} {L : List (Option KV)} {st : List KV} {σ : KM} {Z : Type} {Θ : Z → Prop} {G : Int → KM → Option Z} {x1 : Int} (hX : kOk X d cc n "KeyPathLaw") (hdd : 4 + 1 ≤ d) (hst : k_cat st ≤ 8) (hd : decode cc pc = .ok (.invokevirtual 86, 3)) (h : ∀ r τ, kJ X (pc + 3) L (ki r :: st) τ (G r τ) Θ) : kJ X pc L (ki x1 :: kr 10 :: st) σ (kCall (fM_overall x1 σ) G) Θ :=
  k_callV (np := 1) (av := [ki x1]) (ret := (some .int)) hX (by decide) rfl rfl rfl (sM_overall _ σ) ⟨⟨hdd, by decide⟩, tw_1289, tw_11, by decide +kernel⟩ rfl tw_1286 tw_1287 tw_1288 hst hd h
theorem cl_198 {X : KC} {d n : Nat} {cc : ByteArray} {pc : Nat} {L : List (Option KV)} {st : List KV} {σ : KM} {Z : Type} {Θ : Z → Prop} {G : Int → KM → Option Z} {x1 : Int} (hX : kOk X d cc n "KeyPathLaw") (hdd : 7 + 1 ≤ d) (hst : k_cat st ≤ 8) (hd : decode cc pc = .ok (.invokevirtual 87, 3)) (h : ∀ r τ, kJ X (pc + 3) L (ki r :: st) τ (G r τ) Θ) : kJ X pc L (ki x1 :: kr 0 :: st) σ (kCall (fP_chord x1 σ) G) Θ :=
  k_callV (np := 1) (av := [ki x1]) (ret := (some .int)) hX (by decide) rfl rfl rfl (sP_chord _ σ) ⟨⟨hdd, by decide⟩, tw_653, tw_1, by decide +kernel⟩ rfl tw_650 tw_651 tw_652 hst hd h
theorem cl_199 {X : KC} {d n : Nat} {cc : ByteArray} {pc : Nat} {L : List (Option KV)} {st : List KV} {σ : KM} {Z : Type} {Θ : Z → Prop} {G : Int → KM → Option Z} {x1 : Int} (hX : kOk X d cc n "KeyPathLaw") (hdd : 5 + 1 ≤ d) (hst : k_cat st ≤ 8) (hd : decode cc pc = .ok (.invokevirtual 90, 3)) (h : ∀ r τ, kJ X (pc + 3) L (ki r :: st) τ (G r τ) Θ) : kJ X pc L (ki x1 :: kr 10 :: st) σ (kCall (fM_chord x1 σ) G) Θ :=
  k_callV (np := 1) (av := [ki x1]) (ret := (some .int)) hX (by decide) rfl rfl rfl (sM_chord _ σ) ⟨⟨hdd, by decide⟩, tw_1293, tw_11, by decide +kernel⟩ rfl tw_1290 tw_1291 tw_1292 hst hd h
theorem cl_200 {X : KC} {d n : Nat} {cc : ByteArray} {pc : Nat} {L : List (Option KV)} {st : List KV} {σ : KM} {Z : Type} {Θ : Z → Prop} {G : Int → KM → Option Z} {x1 x2 : Int} (hX : kOk X d cc n "KeyPathLaw") (hdd : 5 + 1 ≤ d) (hst : k_cat st ≤ 8) (hd : decode cc pc = .ok (.invokevirtual 91, 3)) (h : ∀ r τ, kJ X (pc + 3) L (ki r :: st) τ (G r τ) Θ) : kJ X pc L (ki x2 :: ki x1 :: kr 0 :: st) σ (kCall (fP_distance x1 x2 σ) G) Θ :=
  k_callV (np := 2) (av := [ki x1, ki x2]) (ret := (some .int)) hX (by decide) rfl rfl rfl (sP_distance _ _ σ) ⟨⟨hdd, by decide⟩, tw_657, tw_1, by decide +kernel⟩ rfl tw_654 tw_655 tw_656 hst hd h
theorem cl_201 {X : KC} {d n : Nat} {cc : ByteArray} {pc : Nat} {L : List (Option KV)} {st : List KV} {σ : KM} {Z : Type} {Θ : Z → Prop} {G : Int → KM → Option Z} {x1 x2 : Int} (hX : kOk X d cc n "KeyPathLaw") (hdd : 3 + 1 ≤ d) (hst : k_cat st ≤ 8) (hd : decode cc pc = .ok (.invokevirtual 94, 3)) (h : ∀ r τ, kJ X (pc + 3) L (ki r :: st) τ (G r τ) Θ) : kJ X pc L (ki x2 :: ki x1 :: kr 10 :: st) σ (kCall (fM_distance x1 x2 σ) G) Θ :=
  k_callV (np := 2) (av := [ki x1, ki x2]) (ret := (some .int)) hX (by decide) rfl rfl rfl (sM_distance _ _ σ) ⟨⟨hdd, by decide⟩, tw_1304, tw_11, by decide +kernel⟩ rfl tw_1301 tw_1302 tw_1303 hst hd h
theorem cl_202 {X : KC} {d n : Nat} {cc : ByteArray} {pc : Nat} {L : List (Option KV)} {st : List KV} {σ : KM} {Z : Type} {Θ : Z → Prop} {G : Int → KM → Option Z} {x1 x2 x3 : Int} (hX : kOk X d cc n "KeyPathLaw") (hdd : 5 + 1 ≤ d) (hst : k_cat st ≤ 8) (hd : decode cc pc = .ok (.invokevirtual 95, 3)) (h : ∀ r τ, kJ X (pc + 3) L (ki r :: st) τ (G r τ) Θ) : kJ X pc L (ki x3 :: ki x2 :: ki x1 :: kr 0 :: st) σ (kCall (fP_way x1 x2 x3 σ) G) Θ :=
  k_callV (np := 3) (av := [ki x1, ki x2, ki x3]) (ret := (some .int)) hX (by decide) rfl rfl rfl (sP_way _ _ _ σ) ⟨⟨hdd, by decide⟩, tw_686, tw_1, by decide +kernel⟩ rfl tw_683 tw_684 tw_685 hst hd h
theorem cl_203 {X : KC} {d n : Nat} {cc : ByteArray} {pc : Nat} {L : List (Option KV)} {st : List KV} {σ : KM} {Z : Type} {Θ : Z → Prop} {G : Int → KM → Option Z} {x1 x2 x3 : Int} (hX : kOk X d cc n "KeyPathLaw") (hdd : 3 + 1 ≤ d) (hst : k_cat st ≤ 8) (hd : decode cc pc = .ok (.invokevirtual 98, 3)) (h : ∀ r τ, kJ X (pc + 3) L (ki r :: st) τ (G r τ) Θ) : kJ X pc L (ki x3 :: ki x2 :: ki x1 :: kr 10 :: st) σ (kCall (fM_way x1 x2 x3 σ) G) Θ :=
  k_callV (np := 3) (av := [ki x1, ki x2, ki x3]) (ret := (some .int)) hX (by decide) rfl rfl rfl (sM_way _ _ _ σ) ⟨⟨hdd, by decide⟩, tw_1320, tw_11, by decide +kernel⟩ rfl tw_1317 tw_1318 tw_1319 hst hd h
theorem cl_204 {X : KC} {d n : Nat} {cc : ByteArray} {pc : Nat} {L : List (Option KV)} {st : List KV} {σ : KM} {Z : Type} {Θ : Z → Prop} {G : Int → KM → Option Z} (hX : kOk X d cc n "KeyPathLaw") (hdd : 8 + 1 ≤ d) (hst : k_cat st ≤ 8) (hd : decode cc pc = .ok (.invokevirtual 99, 3)) (h : ∀ r τ, kJ X (pc + 3) L (ki r :: st) τ (G r τ) Θ) : kJ X pc L (kr 0 :: st) σ (kCall (fP_cost σ) G) Θ :=
  k_callV (np := 0) (av := []) (ret := (some .int)) hX (by decide) rfl rfl rfl (sP_cost σ) ⟨⟨hdd, by decide⟩, tw_699, tw_1, by decide +kernel⟩ rfl tw_696 tw_697 tw_698 hst hd h
theorem cl_205 {X : KC} {d n : Nat} {cc : ByteArray} {pc : Nat} {L : List (Option KV)} {st : List KV} {σ : KM} {Z : Type} {Θ : Z → Prop} {G : Int → KM → Option Z} (hX : kOk X d cc n "KeyPathLaw") (hdd : 6 + 1 ≤ d) (hst : k_cat st ≤ 8) (hd : decode cc pc = .ok (.invokevirtual 102, 3)) (h : ∀ r τ, kJ X (pc + 3) L (ki r :: st) τ (G r τ) Θ) : kJ X pc L (kr 10 :: st) σ (kCall (fM_cost σ) G) Θ :=
  k_callV (np := 0) (av := []) (ret := (some .int)) hX (by decide) rfl rfl rfl (sM_cost σ) ⟨⟨hdd, by decide⟩, tw_1324, tw_11, by decide +kernel⟩ rfl tw_1321 tw_1322 tw_1323 hst hd h
theorem cl_206 {X : KC} {d n : Nat} {cc : ByteArray} {pc : Nat} {L : List (Option KV)} {st : List KV} {σ : KM} {Z : Type} {Θ : Z → Prop} {G : Int → KM → Option Z} {x1 : Int} (hX : kOk X d cc n "KeyPathLaw") (hdd : 8 + 1 ≤ d) (hst : k_cat st ≤ 8) (hd : decode cc pc = .ok (.invokevirtual 103, 3)) (h : ∀ r τ, kJ X (pc + 3) L (ki r :: st) τ (G r τ) Θ) : kJ X pc L (ki x1 :: kr 0 :: st) σ (kCall (fP_key x1 σ) G) Θ :=
  k_callV (np := 1) (av := [ki x1]) (ret := (some .int)) hX (by decide) rfl rfl rfl (sP_key _ σ) ⟨⟨hdd, by decide⟩, tw_751, tw_1, by decide +kernel⟩ rfl tw_748 tw_749 tw_750 hst hd h
theorem cl_207 {X : KC} {d n : Nat} {cc : ByteArray} {pc : Nat} {L : List (Option KV)} {st : List KV} {σ : KM} {Z : Type} {Θ : Z → Prop} {G : Int → KM → Option Z} {x1 : Int} (hX : kOk X d cc n "KeyPathLaw") (hdd : 6 + 1 ≤ d) (hst : k_cat st ≤ 8) (hd : decode cc pc = .ok (.invokevirtual 106, 3)) (h : ∀ r τ, kJ X (pc + 3) L (ki r :: st) τ (G r τ) Θ) : kJ X pc L (ki x1 :: kr 10 :: st) σ (kCall (fM_key x1 σ) G) Θ :=
  k_callV (np := 1) (av := [ki x1]) (ret := (some .int)) hX (by decide) rfl rfl rfl (sM_key _ σ) ⟨⟨hdd, by decide⟩, tw_1352, tw_11, by decide +kernel⟩ rfl tw_1349 tw_1350 tw_1351 hst hd h
theorem cl_208 {X : KC} {d n : Nat} {cc : ByteArray} {pc : Nat} {L : List (Option KV)} {st : List KV} {σ : KM} {Z : Type} {Θ : Z → Prop} {G : Int → KM → Option Z} (hX : kOk X d cc n "KeyPathLaw") (hdd : 8 + 1 ≤ d) (hst : k_cat st ≤ 8) (hd : decode cc pc = .ok (.invokevirtual 107, 3)) (h : ∀ r τ, kJ X (pc + 3) L (ki r :: st) τ (G r τ) Θ) : kJ X pc L (kr 0 :: st) σ (kCall (fP_ties σ) G) Θ :=
  k_callV (np := 0) (av := []) (ret := (some .int)) hX (by decide) rfl rfl rfl (sP_ties σ) ⟨⟨hdd, by decide⟩, tw_755, tw_1, by decide +kernel⟩ rfl tw_752 tw_753 tw_754 hst hd h
theorem cl_209 {X : KC} {d n : Nat} {cc : ByteArray} {pc : Nat} {L : List (Option KV)} {st : List KV} {σ : KM} {Z : Type} {Θ : Z → Prop} {G : Int → KM → Option Z} (hX : kOk X d cc n "KeyPathLaw") (hdd : 6 + 1 ≤ d) (hst : k_cat st ≤ 8) (hd : decode cc pc = .ok (.invokevirtual 110, 3)) (h : ∀ r τ, kJ X (pc + 3) L (ki r :: st) τ (G r τ) Θ) : kJ X pc L (kr 10 :: st) σ (kCall (fM_ties σ) G) Θ :=
  k_callV (np := 0) (av := []) (ret := (some .int)) hX (by decide) rfl rfl rfl (sM_ties σ) ⟨⟨hdd, by decide⟩, tw_1356, tw_11, by decide +kernel⟩ rfl tw_1353 tw_1354 tw_1355 hst hd h
theorem cl_210 {X : KC} {d n : Nat} {cc : ByteArray} {pc : Nat} {L : List (Option KV)} {st : List KV} {σ : KM} {Z : Type} {Θ : Z → Prop} {G : Int → KM → Option Z} {x1 x2 : Int} (hX : kOk X d cc n "KeyPathLaw") (hdd : 8 + 1 ≤ d) (hst : k_cat st ≤ 8) (hd : decode cc pc = .ok (.invokevirtual 111, 3)) (h : ∀ r τ, kJ X (pc + 3) L (ki r :: st) τ (G r τ) Θ) : kJ X pc L (ki x2 :: ki x1 :: kr 0 :: st) σ (kCall (fP_through x1 x2 σ) G) Θ :=
  k_callV (np := 2) (av := [ki x1, ki x2]) (ret := (some .int)) hX (by decide) rfl rfl rfl (sP_through _ _ σ) ⟨⟨hdd, by decide⟩, tw_759, tw_1, by decide +kernel⟩ rfl tw_756 tw_757 tw_758 hst hd h
theorem cl_211 {X : KC} {d n : Nat} {cc : ByteArray} {pc : Nat} {L : List (Option KV)} {st : List KV} {σ : KM} {Z : Type} {Θ : Z → Prop} {G : Int → KM → Option Z} {x1 x2 : Int} (hX : kOk X d cc n "KeyPathLaw") (hdd : 6 + 1 ≤ d) (hst : k_cat st ≤ 8) (hd : decode cc pc = .ok (.invokevirtual 114, 3)) (h : ∀ r τ, kJ X (pc + 3) L (ki r :: st) τ (G r τ) Θ) : kJ X pc L (ki x2 :: ki x1 :: kr 10 :: st) σ (kCall (fM_through x1 x2 σ) G) Θ :=
  k_callV (np := 2) (av := [ki x1, ki x2]) (ret := (some .int)) hX (by decide) rfl rfl rfl (sM_through _ _ σ) ⟨⟨hdd, by decide⟩, tw_1360, tw_11, by decide +kernel⟩ rfl tw_1357 tw_1358 tw_1359 hst hd h
theorem cl_212 {X : KC} {d n : Nat} {cc : ByteArray} {pc : Nat} {L : List (Option KV)} {st : List KV} {σ : KM} {Z : Type} {Θ : Z → Prop} {G : Int → KM → Option Z} {x1 x2 : Int} (hX : kOk X d cc n "KeyPathLaw") (hdd : 8 + 1 ≤ d) (hst : k_cat st ≤ 8) (hd : decode cc pc = .ok (.invokevirtual 115, 3)) (h : ∀ r τ, kJ X (pc + 3) L (ki r :: st) τ (G r τ) Θ) : kJ X pc L (ki x2 :: ki x1 :: kr 0 :: st) σ (kCall (fP_unsure x1 x2 σ) G) Θ :=
  k_callV (np := 2) (av := [ki x1, ki x2]) (ret := (some .int)) hX (by decide) rfl rfl rfl (sP_unsure _ _ σ) ⟨⟨hdd, by decide⟩, tw_780, tw_1, by decide +kernel⟩ rfl tw_777 tw_778 tw_779 hst hd h
theorem cl_213 {X : KC} {d n : Nat} {cc : ByteArray} {pc : Nat} {L : List (Option KV)} {st : List KV} {σ : KM} {Z : Type} {Θ : Z → Prop} {G : Int → KM → Option Z} {x1 x2 : Int} (hX : kOk X d cc n "KeyPathLaw") (hdd : 6 + 1 ≤ d) (hst : k_cat st ≤ 8) (hd : decode cc pc = .ok (.invokevirtual 118, 3)) (h : ∀ r τ, kJ X (pc + 3) L (ki r :: st) τ (G r τ) Θ) : kJ X pc L (ki x2 :: ki x1 :: kr 10 :: st) σ (kCall (fM_unsure x1 x2 σ) G) Θ :=
  k_callV (np := 2) (av := [ki x1, ki x2]) (ret := (some .int)) hX (by decide) rfl rfl rfl (sM_unsure _ _ σ) ⟨⟨hdd, by decide⟩, tw_1372, tw_11, by decide +kernel⟩ rfl tw_1369 tw_1370 tw_1371 hst hd h
theorem cl_214 {X : KC} {d n : Nat} {cc : ByteArray} {pc : Nat} {L : List (Option KV)} {st : List KV} {σ : KM} {Z : Type} {Θ : Z → Prop} {G : Int → KM → Option Z} {x1 : Int} (hX : kOk X d cc n "KeyPathLaw") (hdd : 8 + 1 ≤ d) (hst : k_cat st ≤ 8) (hd : decode cc pc = .ok (.invokevirtual 119, 3)) (h : ∀ r τ, kJ X (pc + 3) L (ki r :: st) τ (G r τ) Θ) : kJ X pc L (ki x1 :: kr 0 :: st) σ (kCall (fP_second x1 σ) G) Θ :=
  k_callV (np := 1) (av := [ki x1]) (ret := (some .int)) hX (by decide) rfl rfl rfl (sP_second _ σ) ⟨⟨hdd, by decide⟩, tw_789, tw_1, by decide +kernel⟩ rfl tw_786 tw_787 tw_788 hst hd h
theorem cl_215 {X : KC} {d n : Nat} {cc : ByteArray} {pc : Nat} {L : List (Option KV)} {st : List KV} {σ : KM} {Z : Type} {Θ : Z → Prop} {G : Int → KM → Option Z} {x1 : Int} (hX : kOk X d cc n "KeyPathLaw") (hdd : 6 + 1 ≤ d) (hst : k_cat st ≤ 8) (hd : decode cc pc = .ok (.invokevirtual 122, 3)) (h : ∀ r τ, kJ X (pc + 3) L (ki r :: st) τ (G r τ) Θ) : kJ X pc L (ki x1 :: kr 10 :: st) σ (kCall (fM_second x1 σ) G) Θ :=
  k_callV (np := 1) (av := [ki x1]) (ret := (some .int)) hX (by decide) rfl rfl rfl (sM_second _ σ) ⟨⟨hdd, by decide⟩, tw_1377, tw_11, by decide +kernel⟩ rfl tw_1374 tw_1375 tw_1376 hst hd h
theorem cl_216 {X : KC} {d n : Nat} {cc : ByteArray} {pc : Nat} {L : List (Option KV)} {st : List KV} {σ : KM} {Z : Type} {Θ : Z → Prop} {G : Int → KM → Option Z} {x1 : Int} (hX : kOk X d cc n "KeyPathLaw") (hdd : 8 + 1 ≤ d) (hst : k_cat st ≤ 8) (hd : decode cc pc = .ok (.invokevirtual 123, 3)) (h : ∀ r τ, kJ X (pc + 3) L (ki r :: st) τ (G r τ) Θ) : kJ X pc L (ki x1 :: kr 0 :: st) σ (kCall (fP_within x1 σ) G) Θ :=
  k_callV (np := 1) (av := [ki x1]) (ret := (some .int)) hX (by decide) rfl rfl rfl (sP_within _ σ) ⟨⟨hdd, by decide⟩, tw_797, tw_1, by decide +kernel⟩ rfl tw_794 tw_795 tw_796 hst hd h
theorem cl_217 {X : KC} {d n : Nat} {cc : ByteArray} {pc : Nat} {L : List (Option KV)} {st : List KV} {σ : KM} {Z : Type} {Θ : Z → Prop} {G : Int → KM → Option Z} {x1 : Int} (hX : kOk X d cc n "KeyPathLaw") (hdd : 6 + 1 ≤ d) (hst : k_cat st ≤ 8) (hd : decode cc pc = .ok (.invokevirtual 126, 3)) (h : ∀ r τ, kJ X (pc + 3) L (ki r :: st) τ (G r τ) Θ) : kJ X pc L (ki x1 :: kr 10 :: st) σ (kCall (fM_within x1 σ) G) Θ :=
  k_callV (np := 1) (av := [ki x1]) (ret := (some .int)) hX (by decide) rfl rfl rfl (sM_within _ σ) ⟨⟨hdd, by decide⟩, tw_1381, tw_11, by decide +kernel⟩ rfl tw_1378 tw_1379 tw_1380 hst hd h
theorem cl_218 {X : KC} {d n : Nat} {cc : ByteArray} {pc : Nat} {L : List (Option KV)} {st : List KV} {σ : KM} {Z : Type} {Θ : Z → Prop} {G : Int → KM → Option Z} {x1 : Int} (hX : kOk X d cc n "KeyPathLaw") (hdd : 8 + 1 ≤ d) (hst : k_cat st ≤ 8) (hd : decode cc pc = .ok (.invokevirtual 127, 3)) (h : ∀ r τ, kJ X (pc + 3) L (ki r :: st) τ (G r τ) Θ) : kJ X pc L (ki x1 :: kr 0 :: st) σ (kCall (fP_lasting x1 σ) G) Θ :=
  k_callV (np := 1) (av := [ki x1]) (ret := (some .int)) hX (by decide) rfl rfl rfl (sP_lasting _ σ) ⟨⟨hdd, by decide⟩, tw_818, tw_1, by decide +kernel⟩ rfl tw_815 tw_816 tw_817 hst hd h
theorem cl_219 {X : KC} {d n : Nat} {cc : ByteArray} {pc : Nat} {L : List (Option KV)} {st : List KV} {σ : KM} {Z : Type} {Θ : Z → Prop} {G : Int → KM → Option Z} {x1 : Int} (hX : kOk X d cc n "KeyPathLaw") (hdd : 6 + 1 ≤ d) (hst : k_cat st ≤ 8) (hd : decode cc pc = .ok (.invokevirtual 130, 3)) (h : ∀ r τ, kJ X (pc + 3) L (ki r :: st) τ (G r τ) Θ) : kJ X pc L (ki x1 :: kr 10 :: st) σ (kCall (fM_lasting x1 σ) G) Θ :=
  k_callV (np := 1) (av := [ki x1]) (ret := (some .int)) hX (by decide) rfl rfl rfl (sM_lasting _ σ) ⟨⟨hdd, by decide⟩, tw_1393, tw_11, by decide +kernel⟩ rfl tw_1390 tw_1391 tw_1392 hst hd h
theorem cl_220 {X : KC} {d n : Nat} {cc : ByteArray} {pc : Nat} {L : List (Option KV)} {st : List KV} {σ : KM} {Z : Type} {Θ : Z → Prop} {G : Int → KM → Option Z} (hX : kOk X d cc n "KeyPathLaw") (hdd : 8 + 1 ≤ d) (hst : k_cat st ≤ 8) (hd : decode cc pc = .ok (.invokevirtual 131, 3)) (h : ∀ r τ, kJ X (pc + 3) L (ki r :: st) τ (G r τ) Θ) : kJ X pc L (kr 0 :: st) σ (kCall (fP_firm σ) G) Θ :=
  k_callV (np := 0) (av := []) (ret := (some .int)) hX (by decide) rfl rfl rfl (sP_firm σ) ⟨⟨hdd, by decide⟩, tw_830, tw_1, by decide +kernel⟩ rfl tw_827 tw_828 tw_829 hst hd h
theorem cl_221 {X : KC} {d n : Nat} {cc : ByteArray} {pc : Nat} {L : List (Option KV)} {st : List KV} {σ : KM} {Z : Type} {Θ : Z → Prop} {G : Int → KM → Option Z} (hX : kOk X d cc n "KeyPathLaw") (hdd : 5 + 1 ≤ d) (hst : k_cat st ≤ 8) (hd : decode cc pc = .ok (.invokevirtual 134, 3)) (h : ∀ r τ, kJ X (pc + 3) L (ki r :: st) τ (G r τ) Θ) : kJ X pc L (kr 10 :: st) σ (kCall (fM_firm σ) G) Θ :=
  k_callV (np := 0) (av := []) (ret := (some .int)) hX (by decide) rfl rfl rfl (sM_firm σ) ⟨⟨hdd, by decide⟩, tw_1398, tw_11, by decide +kernel⟩ rfl tw_1395 tw_1396 tw_1397 hst hd h
theorem cl_222 {X : KC} {d n : Nat} {cc : ByteArray} {pc : Nat} {L : List (Option KV)} {st : List KV} {σ : KM} {Z : Type} {Θ : Z → Prop} {G : Int → KM → Option Z} (hX : kOk X d cc n "KeyPathLaw") (hdd : 8 + 1 ≤ d) (hst : k_cat st ≤ 8) (hd : decode cc pc = .ok (.invokevirtual 135, 3)) (h : ∀ r τ, kJ X (pc + 3) L (ki r :: st) τ (G r τ) Θ) : kJ X pc L (kr 0 :: st) σ (kCall (fP_segments σ) G) Θ :=
  k_callV (np := 0) (av := []) (ret := (some .int)) hX (by decide) rfl rfl rfl (sP_segments σ) ⟨⟨hdd, by decide⟩, tw_847, tw_1, by decide +kernel⟩ rfl tw_844 tw_845 tw_846 hst hd h
theorem cl_223 {X : KC} {d n : Nat} {cc : ByteArray} {pc : Nat} {L : List (Option KV)} {st : List KV} {σ : KM} {Z : Type} {Θ : Z → Prop} {G : Int → KM → Option Z} (hX : kOk X d cc n "KeyPathLaw") (hdd : 6 + 1 ≤ d) (hst : k_cat st ≤ 8) (hd : decode cc pc = .ok (.invokevirtual 138, 3)) (h : ∀ r τ, kJ X (pc + 3) L (ki r :: st) τ (G r τ) Θ) : kJ X pc L (kr 10 :: st) σ (kCall (fM_segments σ) G) Θ :=
  k_callV (np := 0) (av := []) (ret := (some .int)) hX (by decide) rfl rfl rfl (sM_segments σ) ⟨⟨hdd, by decide⟩, tw_1406, tw_11, by decide +kernel⟩ rfl tw_1403 tw_1404 tw_1405 hst hd h
theorem cl_224 {X : KC} {d n : Nat} {cc : ByteArray} {pc : Nat} {L : List (Option KV)} {st : List KV} {σ : KM} {Z : Type} {Θ : Z → Prop} {G : Int → KM → Option Z} {x1 x2 : Int} (hX : kOk X d cc n "KeyPathLaw") (hdd : 8 + 1 ≤ d) (hst : k_cat st ≤ 8) (hd : decode cc pc = .ok (.invokevirtual 139, 3)) (h : ∀ r τ, kJ X (pc + 3) L (ki r :: st) τ (G r τ) Θ) : kJ X pc L (ki x2 :: ki x1 :: kr 0 :: st) σ (kCall (fP_segment x1 x2 σ) G) Θ :=
  k_callV (np := 2) (av := [ki x1, ki x2]) (ret := (some .int)) hX (by decide) rfl rfl rfl (sP_segment _ _ σ) ⟨⟨hdd, by decide⟩, tw_851, tw_1, by decide +kernel⟩ rfl tw_848 tw_849 tw_850 hst hd h
theorem cl_225 {X : KC} {d n : Nat} {cc : ByteArray} {pc : Nat} {L : List (Option KV)} {st : List KV} {σ : KM} {Z : Type} {Θ : Z → Prop} {G : Int → KM → Option Z} {x1 x2 : Int} (hX : kOk X d cc n "KeyPathLaw") (hdd : 6 + 1 ≤ d) (hst : k_cat st ≤ 8) (hd : decode cc pc = .ok (.invokevirtual 142, 3)) (h : ∀ r τ, kJ X (pc + 3) L (ki r :: st) τ (G r τ) Θ) : kJ X pc L (ki x2 :: ki x1 :: kr 10 :: st) σ (kCall (fM_segment x1 x2 σ) G) Θ :=
  k_callV (np := 2) (av := [ki x1, ki x2]) (ret := (some .int)) hX (by decide) rfl rfl rfl (sM_segment _ _ σ) ⟨⟨hdd, by decide⟩, tw_1410, tw_11, by decide +kernel⟩ rfl tw_1407 tw_1408 tw_1409 hst hd h
theorem cl_226 {X : KC} {d n : Nat} {cc : ByteArray} {pc : Nat} {L : List (Option KV)} {st : List KV} {σ : KM} {Z : Type} {Θ : Z → Prop} {G : Int → KM → Option Z} {x1 x2 : Int} (hX : kOk X d cc n "KeyPathLaw") (hdd : 8 + 1 ≤ d) (hst : k_cat st ≤ 8) (hd : decode cc pc = .ok (.invokevirtual 143, 3)) (h : ∀ r τ, kJ X (pc + 3) L (ki r :: st) τ (G r τ) Θ) : kJ X pc L (ki x2 :: ki x1 :: kr 0 :: st) σ (kCall (fP_pivot x1 x2 σ) G) Θ :=
  k_callV (np := 2) (av := [ki x1, ki x2]) (ret := (some .int)) hX (by decide) rfl rfl rfl (sP_pivot _ _ σ) ⟨⟨hdd, by decide⟩, tw_859, tw_1, by decide +kernel⟩ rfl tw_856 tw_857 tw_858 hst hd h
theorem cl_227 {X : KC} {d n : Nat} {cc : ByteArray} {pc : Nat} {L : List (Option KV)} {st : List KV} {σ : KM} {Z : Type} {Θ : Z → Prop} {G : Int → KM → Option Z} {x1 x2 : Int} (hX : kOk X d cc n "KeyPathLaw") (hdd : 6 + 1 ≤ d) (hst : k_cat st ≤ 8) (hd : decode cc pc = .ok (.invokevirtual 146, 3)) (h : ∀ r τ, kJ X (pc + 3) L (ki r :: st) τ (G r τ) Θ) : kJ X pc L (ki x2 :: ki x1 :: kr 10 :: st) σ (kCall (fM_pivot x1 x2 σ) G) Θ :=
  k_callV (np := 2) (av := [ki x1, ki x2]) (ret := (some .int)) hX (by decide) rfl rfl rfl (sM_pivot _ _ σ) ⟨⟨hdd, by decide⟩, tw_1429, tw_11, by decide +kernel⟩ rfl tw_1426 tw_1427 tw_1428 hst hd h
theorem cl_228 {X : KC} {d n : Nat} {cc : ByteArray} {pc : Nat} {L : List (Option KV)} {st : List KV} {σ : KM} {Z : Type} {Θ : Z → Prop} {G : Int → KM → Option Z} {x1 : Int} (hX : kOk X d cc n "KeyPathLaw") (hdd : 8 + 1 ≤ d) (hst : k_cat st ≤ 8) (hd : decode cc pc = .ok (.invokevirtual 147, 3)) (h : ∀ r τ, kJ X (pc + 3) L (ki r :: st) τ (G r τ) Θ) : kJ X pc L (ki x1 :: kr 0 :: st) σ (kCall (fP_roman x1 σ) G) Θ :=
  k_callV (np := 1) (av := [ki x1]) (ret := (some .int)) hX (by decide) rfl rfl rfl (sP_roman _ σ) ⟨⟨hdd, by decide⟩, tw_885, tw_1, by decide +kernel⟩ rfl tw_882 tw_883 tw_884 hst hd h
theorem cl_229 {X : KC} {d n : Nat} {cc : ByteArray} {pc : Nat} {L : List (Option KV)} {st : List KV} {σ : KM} {Z : Type} {Θ : Z → Prop} {G : Int → KM → Option Z} {x1 : Int} (hX : kOk X d cc n "KeyPathLaw") (hdd : 6 + 1 ≤ d) (hst : k_cat st ≤ 8) (hd : decode cc pc = .ok (.invokevirtual 150, 3)) (h : ∀ r τ, kJ X (pc + 3) L (ki r :: st) τ (G r τ) Θ) : kJ X pc L (ki x1 :: kr 10 :: st) σ (kCall (fM_roman x1 σ) G) Θ :=
  k_callV (np := 1) (av := [ki x1]) (ret := (some .int)) hX (by decide) rfl rfl rfl (sM_roman _ σ) ⟨⟨hdd, by decide⟩, tw_1437, tw_11, by decide +kernel⟩ rfl tw_1434 tw_1435 tw_1436 hst hd h
theorem cl_230 {X : KC} {d n : Nat} {cc : ByteArray} {pc : Nat} {L : List (Option KV)} {st : List KV} {σ : KM} {Z : Type} {Θ : Z → Prop} {G : Int → KM → Option Z} (hX : kOk X d cc n "KeyPathLaw") (hdd : 8 + 1 ≤ d) (hst : k_cat st ≤ 8) (hd : decode cc pc = .ok (.invokevirtual 151, 3)) (h : ∀ r τ, kJ X (pc + 3) L (ki r :: st) τ (G r τ) Θ) : kJ X pc L (kr 0 :: st) σ (kCall (fP_outside σ) G) Θ :=
  k_callV (np := 0) (av := []) (ret := (some .int)) hX (by decide) rfl rfl rfl (sP_outside σ) ⟨⟨hdd, by decide⟩, tw_893, tw_1, by decide +kernel⟩ rfl tw_890 tw_891 tw_892 hst hd h
theorem cl_231 {X : KC} {d n : Nat} {cc : ByteArray} {pc : Nat} {L : List (Option KV)} {st : List KV} {σ : KM} {Z : Type} {Θ : Z → Prop} {G : Int → KM → Option Z} (hX : kOk X d cc n "KeyPathLaw") (hdd : 6 + 1 ≤ d) (hst : k_cat st ≤ 8) (hd : decode cc pc = .ok (.invokevirtual 154, 3)) (h : ∀ r τ, kJ X (pc + 3) L (ki r :: st) τ (G r τ) Θ) : kJ X pc L (kr 10 :: st) σ (kCall (fM_outside σ) G) Θ :=
  k_callV (np := 0) (av := []) (ret := (some .int)) hX (by decide) rfl rfl rfl (sM_outside σ) ⟨⟨hdd, by decide⟩, tw_1445, tw_11, by decide +kernel⟩ rfl tw_1442 tw_1443 tw_1444 hst hd h
theorem cl_232 {X : KC} {d n : Nat} {cc : ByteArray} {pc : Nat} {L : List (Option KV)} {st : List KV} {σ : KM} {Z : Type} {Θ : Z → Prop} {G : Int → KM → Option Z} {x1 : Int} (hX : kOk X d cc n "KeyPathLaw") (hdd : 6 + 1 ≤ d) (hst : k_cat st ≤ 8) (hd : decode cc pc = .ok (.invokevirtual 155, 3)) (h : ∀ r τ, kJ X (pc + 3) L (ki r :: st) τ (G r τ) Θ) : kJ X pc L (ki x1 :: kr 0 :: st) σ (kCall (fP_progression x1 σ) G) Θ :=
  k_callV (np := 1) (av := [ki x1]) (ret := (some .int)) hX (by decide) rfl rfl rfl (sP_progression _ σ) ⟨⟨hdd, by decide⟩, tw_897, tw_1, by decide +kernel⟩ rfl tw_894 tw_895 tw_896 hst hd h
theorem cl_233 {X : KC} {d n : Nat} {cc : ByteArray} {pc : Nat} {L : List (Option KV)} {st : List KV} {σ : KM} {Z : Type} {Θ : Z → Prop} {G : Int → KM → Option Z} {x1 : Int} (hX : kOk X d cc n "KeyPathLaw") (hdd : 4 + 1 ≤ d) (hst : k_cat st ≤ 8) (hd : decode cc pc = .ok (.invokevirtual 158, 3)) (h : ∀ r τ, kJ X (pc + 3) L (ki r :: st) τ (G r τ) Θ) : kJ X pc L (ki x1 :: kr 10 :: st) σ (kCall (fM_progression x1 σ) G) Θ :=
  k_callV (np := 1) (av := [ki x1]) (ret := (some .int)) hX (by decide) rfl rfl rfl (sM_progression _ σ) ⟨⟨hdd, by decide⟩, tw_1449, tw_11, by decide +kernel⟩ rfl tw_1446 tw_1447 tw_1448 hst hd h
theorem cl_234 {X : KC} {d n : Nat} {cc : ByteArray} {pc : Nat} {L : List (Option KV)} {st : List KV} {σ : KM} {Z : Type} {Θ : Z → Prop} {G : Int → KM → Option Z} {x1 : Int} (hX : kOk X d cc n "KeyPathLaw") (hdd : 8 + 1 ≤ d) (hst : k_cat st ≤ 8) (hd : decode cc pc = .ok (.invokevirtual 159, 3)) (h : ∀ r τ, kJ X (pc + 3) L (ki r :: st) τ (G r τ) Θ) : kJ X pc L (ki x1 :: kr 0 :: st) σ (kCall (fP_confirmed x1 σ) G) Θ :=
  k_callV (np := 1) (av := [ki x1]) (ret := (some .int)) hX (by decide) rfl rfl rfl (sP_confirmed _ σ) ⟨⟨hdd, by decide⟩, tw_901, tw_1, by decide +kernel⟩ rfl tw_898 tw_899 tw_900 hst hd h
theorem cl_235 {X : KC} {d n : Nat} {cc : ByteArray} {pc : Nat} {L : List (Option KV)} {st : List KV} {σ : KM} {Z : Type} {Θ : Z → Prop} {G : Int → KM → Option Z} {x1 : Int} (hX : kOk X d cc n "KeyPathLaw") (hdd : 6 + 1 ≤ d) (hst : k_cat st ≤ 8) (hd : decode cc pc = .ok (.invokevirtual 162, 3)) (h : ∀ r τ, kJ X (pc + 3) L (ki r :: st) τ (G r τ) Θ) : kJ X pc L (ki x1 :: kr 10 :: st) σ (kCall (fM_confirmed x1 σ) G) Θ :=
  k_callV (np := 1) (av := [ki x1]) (ret := (some .int)) hX (by decide) rfl rfl rfl (sM_confirmed _ σ) ⟨⟨hdd, by decide⟩, tw_1453, tw_11, by decide +kernel⟩ rfl tw_1450 tw_1451 tw_1452 hst hd h
theorem cl_236 {X : KC} {d n : Nat} {cc : ByteArray} {pc : Nat} {L : List (Option KV)} {st : List KV} {σ : KM} {Z : Type} {Θ : Z → Prop} {G : Int → KM → Option Z} {x1 x2 : Int} (hX : kOk X d cc n "KeyPathLaw") (hdd : 8 + 1 ≤ d) (hst : k_cat st ≤ 8) (hd : decode cc pc = .ok (.invokevirtual 163, 3)) (h : ∀ r τ, kJ X (pc + 3) L (ki r :: st) τ (G r τ) Θ) : kJ X pc L (ki x2 :: ki x1 :: kr 0 :: st) σ (kCall (fP_learnt x1 x2 σ) G) Θ :=
  k_callV (np := 2) (av := [ki x1, ki x2]) (ret := (some .int)) hX (by decide) rfl rfl rfl (sP_learnt _ _ σ) ⟨⟨hdd, by decide⟩, tw_909, tw_1, by decide +kernel⟩ rfl tw_906 tw_907 tw_908 hst hd h
theorem cl_237 {X : KC} {d n : Nat} {cc : ByteArray} {pc : Nat} {L : List (Option KV)} {st : List KV} {σ : KM} {Z : Type} {Θ : Z → Prop} {G : Int → KM → Option Z} {x1 x2 : Int} (hX : kOk X d cc n "KeyPathLaw") (hdd : 6 + 1 ≤ d) (hst : k_cat st ≤ 8) (hd : decode cc pc = .ok (.invokevirtual 166, 3)) (h : ∀ r τ, kJ X (pc + 3) L (ki r :: st) τ (G r τ) Θ) : kJ X pc L (ki x2 :: ki x1 :: kr 10 :: st) σ (kCall (fM_learnt x1 x2 σ) G) Θ :=
  k_callV (np := 2) (av := [ki x1, ki x2]) (ret := (some .int)) hX (by decide) rfl rfl rfl (sM_learnt _ _ σ) ⟨⟨hdd, by decide⟩, tw_1461, tw_11, by decide +kernel⟩ rfl tw_1458 tw_1459 tw_1460 hst hd h
theorem cl_238 {X : KC} {d n : Nat} {cc : ByteArray} {pc : Nat} {L : List (Option KV)} {st : List KV} {σ : KM} {Z : Type} {Θ : Z → Prop} {G : Int → KM → Option Z} {x1 x2 : Int} (hX : kOk X d cc n "KeyPathLaw") (hdd : 7 + 1 ≤ d) (hst : k_cat st ≤ 8) (hd : decode cc pc = .ok (.invokevirtual 167, 3)) (h : ∀ r τ, kJ X (pc + 3) L (ki r :: st) τ (G r τ) Θ) : kJ X pc L (ki x2 :: ki x1 :: kr 0 :: st) σ (kCall (fP_foreign x1 x2 σ) G) Θ :=
  k_callV (np := 2) (av := [ki x1, ki x2]) (ret := (some .int)) hX (by decide) rfl rfl rfl (sP_foreign _ _ σ) ⟨⟨hdd, by decide⟩, tw_913, tw_1, by decide +kernel⟩ rfl tw_910 tw_911 tw_912 hst hd h
theorem cl_239 {X : KC} {d n : Nat} {cc : ByteArray} {pc : Nat} {L : List (Option KV)} {st : List KV} {σ : KM} {Z : Type} {Θ : Z → Prop} {G : Int → KM → Option Z} {x1 x2 : Int} (hX : kOk X d cc n "KeyPathLaw") (hdd : 5 + 1 ≤ d) (hst : k_cat st ≤ 8) (hd : decode cc pc = .ok (.invokevirtual 170, 3)) (h : ∀ r τ, kJ X (pc + 3) L (ki r :: st) τ (G r τ) Θ) : kJ X pc L (ki x2 :: ki x1 :: kr 10 :: st) σ (kCall (fM_foreign x1 x2 σ) G) Θ :=
  k_callV (np := 2) (av := [ki x1, ki x2]) (ret := (some .int)) hX (by decide) rfl rfl rfl (sM_foreign _ _ σ) ⟨⟨hdd, by decide⟩, tw_1465, tw_11, by decide +kernel⟩ rfl tw_1462 tw_1463 tw_1464 hst hd h
theorem cl_240 {X : KC} {d n : Nat} {cc : ByteArray} {pc : Nat} {L : List (Option KV)} {st : List KV} {σ : KM} {Z : Type} {Θ : Z → Prop} {G : Int → KM → Option Z} (hX : kOk X d cc n "KeyPathLaw") (hdd : 8 + 1 ≤ d) (hst : k_cat st ≤ 8) (hd : decode cc pc = .ok (.invokevirtual 171, 3)) (h : ∀ r τ, kJ X (pc + 3) L (ki r :: st) τ (G r τ) Θ) : kJ X pc L (kr 0 :: st) σ (kCall (fP_close σ) G) Θ :=
  k_callV (np := 0) (av := []) (ret := (some .int)) hX (by decide) rfl rfl rfl (sP_close σ) ⟨⟨hdd, by decide⟩, tw_917, tw_1, by decide +kernel⟩ rfl tw_914 tw_915 tw_916 hst hd h
theorem cl_241 {X : KC} {d n : Nat} {cc : ByteArray} {pc : Nat} {L : List (Option KV)} {st : List KV} {σ : KM} {Z : Type} {Θ : Z → Prop} {G : Int → KM → Option Z} (hX : kOk X d cc n "KeyPathLaw") (hdd : 6 + 1 ≤ d) (hst : k_cat st ≤ 8) (hd : decode cc pc = .ok (.invokevirtual 174, 3)) (h : ∀ r τ, kJ X (pc + 3) L (ki r :: st) τ (G r τ) Θ) : kJ X pc L (kr 10 :: st) σ (kCall (fM_close σ) G) Θ :=
  k_callV (np := 0) (av := []) (ret := (some .int)) hX (by decide) rfl rfl rfl (sM_close σ) ⟨⟨hdd, by decide⟩, tw_1433, tw_11, by decide +kernel⟩ rfl tw_1430 tw_1431 tw_1432 hst hd h
theorem cl_242 {X : KC} {d n : Nat} {cc : ByteArray} {pc : Nat} {L : List (Option KV)} {st : List KV} {σ : KM} {Z : Type} {Θ : Z → Prop} {G : Int → KM → Option Z} {x1 x2 : Int} (hX : kOk X d cc n "KeyPathLaw") (hdd : 4 + 1 ≤ d) (hst : k_cat st ≤ 8) (hd : decode cc pc = .ok (.invokevirtual 175, 3)) (h : ∀ r τ, kJ X (pc + 3) L (ki r :: st) τ (G r τ) Θ) : kJ X pc L (ki x2 :: ki x1 :: kr 0 :: st) σ (kCall (fP_degree x1 x2 σ) G) Θ :=
  k_callV (np := 2) (av := [ki x1, ki x2]) (ret := (some .int)) hX (by decide) rfl rfl rfl (sP_degree _ _ σ) ⟨⟨hdd, by decide⟩, tw_925, tw_1, by decide +kernel⟩ rfl tw_922 tw_923 tw_924 hst hd h
theorem cl_243 {X : KC} {d n : Nat} {cc : ByteArray} {pc : Nat} {L : List (Option KV)} {st : List KV} {σ : KM} {Z : Type} {Θ : Z → Prop} {G : Int → KM → Option Z} {x1 x2 : Int} (hX : kOk X d cc n "KeyPathLaw") (hdd : 3 + 1 ≤ d) (hst : k_cat st ≤ 8) (hd : decode cc pc = .ok (.invokevirtual 178, 3)) (h : ∀ r τ, kJ X (pc + 3) L (ki r :: st) τ (G r τ) Θ) : kJ X pc L (ki x2 :: ki x1 :: kr 10 :: st) σ (kCall (fM_degree x1 x2 σ) G) Θ :=
  k_callV (np := 2) (av := [ki x1, ki x2]) (ret := (some .int)) hX (by decide) rfl rfl rfl (sM_degree _ _ σ) ⟨⟨hdd, by decide⟩, tw_1418, tw_11, by decide +kernel⟩ rfl tw_1415 tw_1416 tw_1417 hst hd h
theorem cl_244 {X : KC} {d n : Nat} {cc : ByteArray} {pc : Nat} {L : List (Option KV)} {st : List KV} {σ : KM} {Z : Type} {Θ : Z → Prop} {G : Int → KM → Option Z} {x1 x2 : Int} (hX : kOk X d cc n "KeyPathLaw") (hdd : 7 + 1 ≤ d) (hst : k_cat st ≤ 8) (hd : decode cc pc = .ok (.invokevirtual 179, 3)) (h : ∀ r τ, kJ X (pc + 3) L (ki r :: st) τ (G r τ) Θ) : kJ X pc L (ki x2 :: ki x1 :: kr 0 :: st) σ (kCall (fP_name x1 x2 σ) G) Θ :=
  k_callV (np := 2) (av := [ki x1, ki x2]) (ret := (some .int)) hX (by decide) rfl rfl rfl (sP_name _ _ σ) ⟨⟨hdd, by decide⟩, tw_929, tw_1, by decide +kernel⟩ rfl tw_926 tw_927 tw_928 hst hd h
theorem cl_245 {X : KC} {d n : Nat} {cc : ByteArray} {pc : Nat} {L : List (Option KV)} {st : List KV} {σ : KM} {Z : Type} {Θ : Z → Prop} {G : Int → KM → Option Z} {x1 x2 : Int} (hX : kOk X d cc n "KeyPathLaw") (hdd : 3 + 1 ≤ d) (hst : k_cat st ≤ 8) (hd : decode cc pc = .ok (.invokevirtual 182, 3)) (h : ∀ r τ, kJ X (pc + 3) L (ki r :: st) τ (G r τ) Θ) : kJ X pc L (ki x2 :: ki x1 :: kr 10 :: st) σ (kCall (fM_name x1 x2 σ) G) Θ :=
  k_callV (np := 2) (av := [ki x1, ki x2]) (ret := (some .int)) hX (by decide) rfl rfl rfl (sM_name _ _ σ) ⟨⟨hdd, by decide⟩, tw_1472, tw_11, by decide +kernel⟩ rfl tw_1469 tw_1470 tw_1471 hst hd h
theorem cl_246 {X : KC} {d n : Nat} {cc : ByteArray} {pc : Nat} {L : List (Option KV)} {st : List KV} {σ : KM} {Z : Type} {Θ : Z → Prop} {G : Int → KM → Option Z} {x1 : Int} (hX : kOk X d cc n "KeyPathLaw") (hdd : 6 + 1 ≤ d) (hst : k_cat st ≤ 8) (hd : decode cc pc = .ok (.invokevirtual 183, 3)) (h : ∀ r τ, kJ X (pc + 3) L (ki r :: st) τ (G r τ) Θ) : kJ X pc L (ki x1 :: kr 0 :: st) σ (kCall (fP_count x1 σ) G) Θ :=
  k_callV (np := 1) (av := [ki x1]) (ret := (some .int)) hX (by decide) rfl rfl rfl (sP_count _ σ) ⟨⟨hdd, by decide⟩, tw_976, tw_1, by decide +kernel⟩ rfl tw_973 tw_974 tw_975 hst hd h
theorem cl_247 {X : KC} {d n : Nat} {cc : ByteArray} {pc : Nat} {L : List (Option KV)} {st : List KV} {σ : KM} {Z : Type} {Θ : Z → Prop} {G : Int → KM → Option Z} {x1 : Int} (hX : kOk X d cc n "KeyPathLaw") (hdd : 4 + 1 ≤ d) (hst : k_cat st ≤ 8) (hd : decode cc pc = .ok (.invokevirtual 186, 3)) (h : ∀ r τ, kJ X (pc + 3) L (ki r :: st) τ (G r τ) Θ) : kJ X pc L (ki x1 :: kr 10 :: st) σ (kCall (fM_count x1 σ) G) Θ :=
  k_callV (np := 1) (av := [ki x1]) (ret := (some .int)) hX (by decide) rfl rfl rfl (sM_count _ σ) ⟨⟨hdd, by decide⟩, tw_1479, tw_11, by decide +kernel⟩ rfl tw_1476 tw_1477 tw_1478 hst hd h
theorem dLaw_law_120_18 : decode code 18 = .ok (.iload_n 3, 1) := by decide +kernel
theorem dLaw_law_120_19 : decode code 19 = .ok (.aload_n 0, 1) := by decide +kernel
theorem dLaw_law_120_20 : decode code 20 = .ok (.arraylength, 1) := by decide +kernel
theorem dLaw_law_120_21 : decode code 21 = .ok (.bipush 6, 2) := by decide +kernel
theorem dLaw_law_120_23 : decode code 23 = .ok (.isub, 1) := by decide +kernel
theorem dLaw_law_120_24 : decode code 24 = .ok (.if_icmp .gt 1394, 3) := by decide +kernel
theorem dLaw_law_120_27 : decode code 27 = .ok (.aload_n 0, 1) := by decide +kernel
theorem dLaw_law_120_28 : decode code 28 = .ok (.iload_n 3, 1) := by decide +kernel
theorem dLaw_law_120_29 : decode code 29 = .ok (.iaload, 1) := by decide +kernel
theorem dLaw_law_120_30 : decode code 30 = .ok (.bipush 63, 2) := by decide +kernel
theorem dLaw_law_120_32 : decode code 32 = .ok (.iand, 1) := by decide +kernel
theorem dLaw_law_120_33 : decode code 33 = .ok (.tableswitch 1379 0 41 #[183, 246, 269, 292, 335, 358, 381, 394, 427, 460, 503, 556, 589, 622, 665, 698, 731, 754, 777, 810, 853, 866, 889, 902, 935, 968, 991, 1014, 1037, 1050, 1063, 1096, 1129, 1152, 1165, 1188, 1211, 1244, 1277, 1290, 1323, 1356], 183) := by decide +kernel
theorem dLaw_law_120_216 : decode code 216 = .ok (.aload_n 1, 1) := by decide +kernel
theorem dLaw_law_120_217 : decode code 217 = .ok (.aload_n 0, 1) := by decide +kernel
theorem dLaw_law_120_218 : decode code 218 = .ok (.iload_n 3, 1) := by decide +kernel
theorem dLaw_law_120_219 : decode code 219 = .ok (.iconst 1, 1) := by decide +kernel
theorem dLaw_law_120_220 : decode code 220 = .ok (.iadd, 1) := by decide +kernel
theorem dLaw_law_120_221 : decode code 221 = .ok (.iaload, 1) := by decide +kernel
theorem dLaw_law_120_222 : decode code 222 = .ok (.aload_n 0, 1) := by decide +kernel
theorem dLaw_law_120_223 : decode code 223 = .ok (.iload_n 3, 1) := by decide +kernel
theorem dLaw_law_120_224 : decode code 224 = .ok (.iconst 2, 1) := by decide +kernel
theorem dLaw_law_120_225 : decode code 225 = .ok (.iadd, 1) := by decide +kernel
theorem dLaw_law_120_226 : decode code 226 = .ok (.iaload, 1) := by decide +kernel
theorem dLaw_law_120_227 : decode code 227 = .ok (.aload_n 0, 1) := by decide +kernel
theorem dLaw_law_120_228 : decode code 228 = .ok (.iload_n 3, 1) := by decide +kernel
theorem dLaw_law_120_229 : decode code 229 = .ok (.iconst 3, 1) := by decide +kernel
theorem dLaw_law_120_230 : decode code 230 = .ok (.iadd, 1) := by decide +kernel
theorem dLaw_law_120_231 : decode code 231 = .ok (.iaload, 1) := by decide +kernel
theorem dLaw_law_120_232 : decode code 232 = .ok (.aload_n 0, 1) := by decide +kernel
theorem dLaw_law_120_233 : decode code 233 = .ok (.iload_n 3, 1) := by decide +kernel
theorem dLaw_law_120_234 : decode code 234 = .ok (.iconst 4, 1) := by decide +kernel
theorem dLaw_law_120_235 : decode code 235 = .ok (.iadd, 1) := by decide +kernel
theorem dLaw_law_120_236 : decode code 236 = .ok (.iaload, 1) := by decide +kernel
theorem dLaw_law_120_237 : decode code 237 = .ok (.aload_n 0, 1) := by decide +kernel
theorem dLaw_law_120_238 : decode code 238 = .ok (.iload_n 3, 1) := by decide +kernel
theorem dLaw_law_120_239 : decode code 239 = .ok (.iconst 5, 1) := by decide +kernel
theorem dLaw_law_120_240 : decode code 240 = .ok (.iadd, 1) := by decide +kernel
theorem dLaw_law_120_241 : decode code 241 = .ok (.iaload, 1) := by decide +kernel
theorem dLaw_law_120_242 : decode code 242 = .ok (.invokevirtual 13, 3) := by decide +kernel
theorem dLaw_law_120_245 : decode code 245 = .ok (.aload_n 2, 1) := by decide +kernel
theorem dLaw_law_120_246 : decode code 246 = .ok (.aload_n 0, 1) := by decide +kernel
theorem dLaw_law_120_247 : decode code 247 = .ok (.iload_n 3, 1) := by decide +kernel
theorem dLaw_law_120_248 : decode code 248 = .ok (.iconst 1, 1) := by decide +kernel
theorem dLaw_law_120_249 : decode code 249 = .ok (.iadd, 1) := by decide +kernel
theorem dLaw_law_120_250 : decode code 250 = .ok (.iaload, 1) := by decide +kernel
theorem dLaw_law_120_251 : decode code 251 = .ok (.aload_n 0, 1) := by decide +kernel
theorem dLaw_law_120_252 : decode code 252 = .ok (.iload_n 3, 1) := by decide +kernel
theorem dLaw_law_120_253 : decode code 253 = .ok (.iconst 2, 1) := by decide +kernel
theorem dLaw_law_120_254 : decode code 254 = .ok (.iadd, 1) := by decide +kernel
theorem dLaw_law_120_255 : decode code 255 = .ok (.iaload, 1) := by decide +kernel
theorem dLaw_law_120_256 : decode code 256 = .ok (.aload_n 0, 1) := by decide +kernel
theorem dLaw_law_120_257 : decode code 257 = .ok (.iload_n 3, 1) := by decide +kernel
theorem dLaw_law_120_258 : decode code 258 = .ok (.iconst 3, 1) := by decide +kernel
theorem dLaw_law_120_259 : decode code 259 = .ok (.iadd, 1) := by decide +kernel
theorem dLaw_law_120_260 : decode code 260 = .ok (.iaload, 1) := by decide +kernel
theorem dLaw_law_120_261 : decode code 261 = .ok (.aload_n 0, 1) := by decide +kernel
theorem dLaw_law_120_262 : decode code 262 = .ok (.iload_n 3, 1) := by decide +kernel
theorem dLaw_law_120_263 : decode code 263 = .ok (.iconst 4, 1) := by decide +kernel
theorem dLaw_law_120_264 : decode code 264 = .ok (.iadd, 1) := by decide +kernel
theorem dLaw_law_120_265 : decode code 265 = .ok (.iaload, 1) := by decide +kernel
theorem dLaw_law_120_266 : decode code 266 = .ok (.aload_n 0, 1) := by decide +kernel
theorem dLaw_law_120_267 : decode code 267 = .ok (.iload_n 3, 1) := by decide +kernel
theorem dLaw_law_120_268 : decode code 268 = .ok (.iconst 5, 1) := by decide +kernel
theorem dLaw_law_120_269 : decode code 269 = .ok (.iadd, 1) := by decide +kernel
theorem dLaw_law_120_270 : decode code 270 = .ok (.iaload, 1) := by decide +kernel
theorem dLaw_law_120_271 : decode code 271 = .ok (.invokevirtual 17, 3) := by decide +kernel
theorem dLaw_law_120_274 : decode code 274 = .ok (.if_icmp .eq 1138, 3) := by decide +kernel
theorem dLaw_law_120_279 : decode code 279 = .ok (.aload_n 1, 1) := by decide +kernel
theorem dLaw_law_120_280 : decode code 280 = .ok (.aload_n 0, 1) := by decide +kernel
theorem dLaw_law_120_281 : decode code 281 = .ok (.iload_n 3, 1) := by decide +kernel
theorem dLaw_law_120_282 : decode code 282 = .ok (.iconst 1, 1) := by decide +kernel
theorem dLaw_law_120_283 : decode code 283 = .ok (.iadd, 1) := by decide +kernel
theorem dLaw_law_120_284 : decode code 284 = .ok (.iaload, 1) := by decide +kernel
theorem dLaw_law_120_285 : decode code 285 = .ok (.invokevirtual 18, 3) := by decide +kernel
theorem dLaw_law_120_288 : decode code 288 = .ok (.aload_n 2, 1) := by decide +kernel
theorem dLaw_law_120_289 : decode code 289 = .ok (.aload_n 0, 1) := by decide +kernel
theorem dLaw_law_120_290 : decode code 290 = .ok (.iload_n 3, 1) := by decide +kernel
theorem dLaw_law_120_291 : decode code 291 = .ok (.iconst 1, 1) := by decide +kernel
theorem dLaw_law_120_292 : decode code 292 = .ok (.iadd, 1) := by decide +kernel
theorem dLaw_law_120_293 : decode code 293 = .ok (.iaload, 1) := by decide +kernel
theorem dLaw_law_120_294 : decode code 294 = .ok (.invokevirtual 22, 3) := by decide +kernel
theorem dLaw_law_120_297 : decode code 297 = .ok (.if_icmp .eq 1115, 3) := by decide +kernel
theorem dLaw_law_120_302 : decode code 302 = .ok (.aload_n 1, 1) := by decide +kernel
theorem dLaw_law_120_303 : decode code 303 = .ok (.aload_n 0, 1) := by decide +kernel
theorem dLaw_law_120_304 : decode code 304 = .ok (.iload_n 3, 1) := by decide +kernel
theorem dLaw_law_120_305 : decode code 305 = .ok (.iconst 1, 1) := by decide +kernel
theorem dLaw_law_120_306 : decode code 306 = .ok (.iadd, 1) := by decide +kernel
theorem dLaw_law_120_307 : decode code 307 = .ok (.iaload, 1) := by decide +kernel
theorem dLaw_law_120_308 : decode code 308 = .ok (.invokevirtual 23, 3) := by decide +kernel
theorem dLaw_law_120_311 : decode code 311 = .ok (.aload_n 2, 1) := by decide +kernel
theorem dLaw_law_120_312 : decode code 312 = .ok (.aload_n 0, 1) := by decide +kernel
theorem dLaw_law_120_313 : decode code 313 = .ok (.iload_n 3, 1) := by decide +kernel
theorem dLaw_law_120_314 : decode code 314 = .ok (.iconst 1, 1) := by decide +kernel
theorem dLaw_law_120_315 : decode code 315 = .ok (.iadd, 1) := by decide +kernel
theorem dLaw_law_120_316 : decode code 316 = .ok (.iaload, 1) := by decide +kernel
theorem dLaw_law_120_317 : decode code 317 = .ok (.invokevirtual 26, 3) := by decide +kernel
theorem dLaw_law_120_320 : decode code 320 = .ok (.if_icmp .eq 1092, 3) := by decide +kernel
theorem dLaw_law_120_325 : decode code 325 = .ok (.aload_n 1, 1) := by decide +kernel
theorem dLaw_law_120_326 : decode code 326 = .ok (.aload_n 0, 1) := by decide +kernel
theorem dLaw_law_120_327 : decode code 327 = .ok (.iload_n 3, 1) := by decide +kernel
theorem dLaw_law_120_328 : decode code 328 = .ok (.iconst 1, 1) := by decide +kernel
theorem dLaw_law_120_329 : decode code 329 = .ok (.iadd, 1) := by decide +kernel
theorem dLaw_law_120_330 : decode code 330 = .ok (.iaload, 1) := by decide +kernel
theorem dLaw_law_120_331 : decode code 331 = .ok (.aload_n 0, 1) := by decide +kernel
theorem dLaw_law_120_332 : decode code 332 = .ok (.iload_n 3, 1) := by decide +kernel
theorem dLaw_law_120_333 : decode code 333 = .ok (.iconst 2, 1) := by decide +kernel
theorem dLaw_law_120_334 : decode code 334 = .ok (.iadd, 1) := by decide +kernel
theorem dLaw_law_120_335 : decode code 335 = .ok (.iaload, 1) := by decide +kernel
theorem dLaw_law_120_336 : decode code 336 = .ok (.aload_n 0, 1) := by decide +kernel
theorem dLaw_law_120_337 : decode code 337 = .ok (.iload_n 3, 1) := by decide +kernel
theorem dLaw_law_120_338 : decode code 338 = .ok (.iconst 3, 1) := by decide +kernel
theorem dLaw_law_120_339 : decode code 339 = .ok (.iadd, 1) := by decide +kernel
theorem dLaw_law_120_340 : decode code 340 = .ok (.iaload, 1) := by decide +kernel
theorem dLaw_law_120_341 : decode code 341 = .ok (.invokevirtual 27, 3) := by decide +kernel
theorem dLaw_law_120_344 : decode code 344 = .ok (.aload_n 2, 1) := by decide +kernel
theorem dLaw_law_120_345 : decode code 345 = .ok (.aload_n 0, 1) := by decide +kernel
theorem dLaw_law_120_346 : decode code 346 = .ok (.iload_n 3, 1) := by decide +kernel
theorem dLaw_law_120_347 : decode code 347 = .ok (.iconst 1, 1) := by decide +kernel
theorem dLaw_law_120_348 : decode code 348 = .ok (.iadd, 1) := by decide +kernel
theorem dLaw_law_120_349 : decode code 349 = .ok (.iaload, 1) := by decide +kernel
theorem dLaw_law_120_350 : decode code 350 = .ok (.aload_n 0, 1) := by decide +kernel
theorem dLaw_law_120_351 : decode code 351 = .ok (.iload_n 3, 1) := by decide +kernel
theorem dLaw_law_120_352 : decode code 352 = .ok (.iconst 2, 1) := by decide +kernel
theorem dLaw_law_120_353 : decode code 353 = .ok (.iadd, 1) := by decide +kernel
theorem dLaw_law_120_354 : decode code 354 = .ok (.iaload, 1) := by decide +kernel
theorem dLaw_law_120_355 : decode code 355 = .ok (.aload_n 0, 1) := by decide +kernel
theorem dLaw_law_120_356 : decode code 356 = .ok (.iload_n 3, 1) := by decide +kernel
theorem dLaw_law_120_357 : decode code 357 = .ok (.iconst 3, 1) := by decide +kernel
theorem dLaw_law_120_358 : decode code 358 = .ok (.iadd, 1) := by decide +kernel
theorem dLaw_law_120_359 : decode code 359 = .ok (.iaload, 1) := by decide +kernel
theorem dLaw_law_120_360 : decode code 360 = .ok (.invokevirtual 31, 3) := by decide +kernel
theorem dLaw_law_120_363 : decode code 363 = .ok (.if_icmp .eq 1049, 3) := by decide +kernel
theorem dLaw_law_120_368 : decode code 368 = .ok (.aload_n 1, 1) := by decide +kernel
theorem dLaw_law_120_369 : decode code 369 = .ok (.aload_n 0, 1) := by decide +kernel
theorem dLaw_law_120_370 : decode code 370 = .ok (.iload_n 3, 1) := by decide +kernel
theorem dLaw_law_120_371 : decode code 371 = .ok (.iconst 1, 1) := by decide +kernel
theorem dLaw_law_120_372 : decode code 372 = .ok (.iadd, 1) := by decide +kernel
theorem dLaw_law_120_373 : decode code 373 = .ok (.iaload, 1) := by decide +kernel
theorem dLaw_law_120_374 : decode code 374 = .ok (.invokevirtual 32, 3) := by decide +kernel
theorem dLaw_law_120_377 : decode code 377 = .ok (.aload_n 2, 1) := by decide +kernel
theorem dLaw_law_120_378 : decode code 378 = .ok (.aload_n 0, 1) := by decide +kernel
theorem dLaw_law_120_379 : decode code 379 = .ok (.iload_n 3, 1) := by decide +kernel
theorem dLaw_law_120_380 : decode code 380 = .ok (.iconst 1, 1) := by decide +kernel
theorem dLaw_law_120_381 : decode code 381 = .ok (.iadd, 1) := by decide +kernel
theorem dLaw_law_120_382 : decode code 382 = .ok (.iaload, 1) := by decide +kernel
theorem dLaw_law_120_383 : decode code 383 = .ok (.invokevirtual 35, 3) := by decide +kernel
theorem dLaw_law_120_386 : decode code 386 = .ok (.if_icmp .eq 1026, 3) := by decide +kernel
theorem dLaw_law_120_391 : decode code 391 = .ok (.aload_n 1, 1) := by decide +kernel
theorem dLaw_law_120_392 : decode code 392 = .ok (.aload_n 0, 1) := by decide +kernel
theorem dLaw_law_120_393 : decode code 393 = .ok (.iload_n 3, 1) := by decide +kernel
theorem dLaw_law_120_394 : decode code 394 = .ok (.iconst 1, 1) := by decide +kernel
theorem dLaw_law_120_395 : decode code 395 = .ok (.iadd, 1) := by decide +kernel
theorem dLaw_law_120_396 : decode code 396 = .ok (.iaload, 1) := by decide +kernel
theorem dLaw_law_120_397 : decode code 397 = .ok (.invokevirtual 36, 3) := by decide +kernel
theorem dLaw_law_120_400 : decode code 400 = .ok (.aload_n 2, 1) := by decide +kernel
theorem dLaw_law_120_401 : decode code 401 = .ok (.aload_n 0, 1) := by decide +kernel
theorem dLaw_law_120_402 : decode code 402 = .ok (.iload_n 3, 1) := by decide +kernel
theorem dLaw_law_120_403 : decode code 403 = .ok (.iconst 1, 1) := by decide +kernel
theorem dLaw_law_120_404 : decode code 404 = .ok (.iadd, 1) := by decide +kernel
theorem dLaw_law_120_405 : decode code 405 = .ok (.iaload, 1) := by decide +kernel
theorem dLaw_law_120_406 : decode code 406 = .ok (.invokevirtual 39, 3) := by decide +kernel
theorem dLaw_law_120_409 : decode code 409 = .ok (.if_icmp .eq 1003, 3) := by decide +kernel
theorem dLaw_law_120_414 : decode code 414 = .ok (.aload_n 1, 1) := by decide +kernel
theorem dLaw_law_120_415 : decode code 415 = .ok (.invokevirtual 40, 3) := by decide +kernel
theorem dLaw_law_120_418 : decode code 418 = .ok (.aload_n 2, 1) := by decide +kernel
theorem dLaw_law_120_419 : decode code 419 = .ok (.invokevirtual 44, 3) := by decide +kernel
theorem dLaw_law_120_422 : decode code 422 = .ok (.if_icmp .eq 990, 3) := by decide +kernel
theorem dLaw_law_120_427 : decode code 427 = .ok (.aload_n 1, 1) := by decide +kernel
theorem dLaw_law_120_428 : decode code 428 = .ok (.aload_n 0, 1) := by decide +kernel
theorem dLaw_law_120_429 : decode code 429 = .ok (.iload_n 3, 1) := by decide +kernel
theorem dLaw_law_120_430 : decode code 430 = .ok (.iconst 1, 1) := by decide +kernel
theorem dLaw_law_120_431 : decode code 431 = .ok (.iadd, 1) := by decide +kernel
theorem dLaw_law_120_432 : decode code 432 = .ok (.iaload, 1) := by decide +kernel
theorem dLaw_law_120_433 : decode code 433 = .ok (.aload_n 0, 1) := by decide +kernel
theorem dLaw_law_120_434 : decode code 434 = .ok (.iload_n 3, 1) := by decide +kernel
theorem dLaw_law_120_435 : decode code 435 = .ok (.iconst 2, 1) := by decide +kernel
theorem dLaw_law_120_436 : decode code 436 = .ok (.iadd, 1) := by decide +kernel
theorem dLaw_law_120_437 : decode code 437 = .ok (.iaload, 1) := by decide +kernel
theorem dLaw_law_120_438 : decode code 438 = .ok (.invokevirtual 45, 3) := by decide +kernel
theorem dLaw_law_120_441 : decode code 441 = .ok (.aload_n 2, 1) := by decide +kernel
theorem dLaw_law_120_442 : decode code 442 = .ok (.aload_n 0, 1) := by decide +kernel
theorem dLaw_law_120_443 : decode code 443 = .ok (.iload_n 3, 1) := by decide +kernel
theorem dLaw_law_120_444 : decode code 444 = .ok (.iconst 1, 1) := by decide +kernel
theorem dLaw_law_120_445 : decode code 445 = .ok (.iadd, 1) := by decide +kernel
theorem dLaw_law_120_446 : decode code 446 = .ok (.iaload, 1) := by decide +kernel
theorem dLaw_law_120_447 : decode code 447 = .ok (.aload_n 0, 1) := by decide +kernel
theorem dLaw_law_120_448 : decode code 448 = .ok (.iload_n 3, 1) := by decide +kernel
theorem dLaw_law_120_449 : decode code 449 = .ok (.iconst 2, 1) := by decide +kernel
theorem dLaw_law_120_450 : decode code 450 = .ok (.iadd, 1) := by decide +kernel
theorem dLaw_law_120_451 : decode code 451 = .ok (.iaload, 1) := by decide +kernel
theorem dLaw_law_120_452 : decode code 452 = .ok (.invokevirtual 49, 3) := by decide +kernel
theorem dLaw_law_120_455 : decode code 455 = .ok (.if_icmp .eq 957, 3) := by decide +kernel
theorem dLaw_law_120_460 : decode code 460 = .ok (.aload_n 1, 1) := by decide +kernel
theorem dLaw_law_120_461 : decode code 461 = .ok (.aload_n 0, 1) := by decide +kernel
theorem dLaw_law_120_462 : decode code 462 = .ok (.iload_n 3, 1) := by decide +kernel
theorem dLaw_law_120_463 : decode code 463 = .ok (.iconst 1, 1) := by decide +kernel
theorem dLaw_law_120_464 : decode code 464 = .ok (.iadd, 1) := by decide +kernel
theorem dLaw_law_120_465 : decode code 465 = .ok (.iaload, 1) := by decide +kernel
theorem dLaw_law_120_466 : decode code 466 = .ok (.aload_n 0, 1) := by decide +kernel
theorem dLaw_law_120_467 : decode code 467 = .ok (.iload_n 3, 1) := by decide +kernel
theorem dLaw_law_120_468 : decode code 468 = .ok (.iconst 2, 1) := by decide +kernel
theorem dLaw_law_120_469 : decode code 469 = .ok (.iadd, 1) := by decide +kernel
theorem dLaw_law_120_470 : decode code 470 = .ok (.iaload, 1) := by decide +kernel
theorem dLaw_law_120_471 : decode code 471 = .ok (.invokevirtual 50, 3) := by decide +kernel
theorem dLaw_law_120_474 : decode code 474 = .ok (.aload_n 2, 1) := by decide +kernel
theorem dLaw_law_120_475 : decode code 475 = .ok (.aload_n 0, 1) := by decide +kernel
theorem dLaw_law_120_476 : decode code 476 = .ok (.iload_n 3, 1) := by decide +kernel
theorem dLaw_law_120_477 : decode code 477 = .ok (.iconst 1, 1) := by decide +kernel
theorem dLaw_law_120_478 : decode code 478 = .ok (.iadd, 1) := by decide +kernel
theorem dLaw_law_120_479 : decode code 479 = .ok (.iaload, 1) := by decide +kernel
theorem dLaw_law_120_480 : decode code 480 = .ok (.aload_n 0, 1) := by decide +kernel
theorem dLaw_law_120_481 : decode code 481 = .ok (.iload_n 3, 1) := by decide +kernel
theorem dLaw_law_120_482 : decode code 482 = .ok (.iconst 2, 1) := by decide +kernel
theorem dLaw_law_120_483 : decode code 483 = .ok (.iadd, 1) := by decide +kernel
theorem dLaw_law_120_484 : decode code 484 = .ok (.iaload, 1) := by decide +kernel
theorem dLaw_law_120_485 : decode code 485 = .ok (.invokevirtual 53, 3) := by decide +kernel
theorem dLaw_law_120_488 : decode code 488 = .ok (.if_icmp .eq 924, 3) := by decide +kernel
theorem dLaw_law_120_493 : decode code 493 = .ok (.aload_n 1, 1) := by decide +kernel
theorem dLaw_law_120_494 : decode code 494 = .ok (.aload_n 0, 1) := by decide +kernel
theorem dLaw_law_120_495 : decode code 495 = .ok (.iload_n 3, 1) := by decide +kernel
theorem dLaw_law_120_496 : decode code 496 = .ok (.iconst 1, 1) := by decide +kernel
theorem dLaw_law_120_497 : decode code 497 = .ok (.iadd, 1) := by decide +kernel
theorem dLaw_law_120_498 : decode code 498 = .ok (.iaload, 1) := by decide +kernel
theorem dLaw_law_120_499 : decode code 499 = .ok (.aload_n 0, 1) := by decide +kernel
theorem dLaw_law_120_500 : decode code 500 = .ok (.iload_n 3, 1) := by decide +kernel
theorem dLaw_law_120_501 : decode code 501 = .ok (.iconst 2, 1) := by decide +kernel
theorem dLaw_law_120_502 : decode code 502 = .ok (.iadd, 1) := by decide +kernel
theorem dLaw_law_120_503 : decode code 503 = .ok (.iaload, 1) := by decide +kernel
theorem dLaw_law_120_504 : decode code 504 = .ok (.aload_n 0, 1) := by decide +kernel
theorem dLaw_law_120_505 : decode code 505 = .ok (.iload_n 3, 1) := by decide +kernel
theorem dLaw_law_120_506 : decode code 506 = .ok (.iconst 3, 1) := by decide +kernel
theorem dLaw_law_120_507 : decode code 507 = .ok (.iadd, 1) := by decide +kernel
theorem dLaw_law_120_508 : decode code 508 = .ok (.iaload, 1) := by decide +kernel
theorem dLaw_law_120_509 : decode code 509 = .ok (.invokevirtual 54, 3) := by decide +kernel
theorem dLaw_law_120_512 : decode code 512 = .ok (.aload_n 2, 1) := by decide +kernel
theorem dLaw_law_120_513 : decode code 513 = .ok (.aload_n 0, 1) := by decide +kernel
theorem dLaw_law_120_514 : decode code 514 = .ok (.iload_n 3, 1) := by decide +kernel
theorem dLaw_law_120_515 : decode code 515 = .ok (.iconst 1, 1) := by decide +kernel
theorem dLaw_law_120_516 : decode code 516 = .ok (.iadd, 1) := by decide +kernel
theorem dLaw_law_120_517 : decode code 517 = .ok (.iaload, 1) := by decide +kernel
theorem dLaw_law_120_518 : decode code 518 = .ok (.aload_n 0, 1) := by decide +kernel
theorem dLaw_law_120_519 : decode code 519 = .ok (.iload_n 3, 1) := by decide +kernel
theorem dLaw_law_120_520 : decode code 520 = .ok (.iconst 2, 1) := by decide +kernel
theorem dLaw_law_120_521 : decode code 521 = .ok (.iadd, 1) := by decide +kernel
theorem dLaw_law_120_522 : decode code 522 = .ok (.iaload, 1) := by decide +kernel
theorem dLaw_law_120_523 : decode code 523 = .ok (.aload_n 0, 1) := by decide +kernel
theorem dLaw_law_120_524 : decode code 524 = .ok (.iload_n 3, 1) := by decide +kernel
theorem dLaw_law_120_525 : decode code 525 = .ok (.iconst 3, 1) := by decide +kernel
theorem dLaw_law_120_526 : decode code 526 = .ok (.iadd, 1) := by decide +kernel
theorem dLaw_law_120_527 : decode code 527 = .ok (.iaload, 1) := by decide +kernel
theorem dLaw_law_120_528 : decode code 528 = .ok (.invokevirtual 57, 3) := by decide +kernel
theorem dLaw_law_120_531 : decode code 531 = .ok (.if_icmp .eq 881, 3) := by decide +kernel
theorem dLaw_law_120_536 : decode code 536 = .ok (.aload_n 1, 1) := by decide +kernel
theorem dLaw_law_120_537 : decode code 537 = .ok (.aload_n 0, 1) := by decide +kernel
theorem dLaw_law_120_538 : decode code 538 = .ok (.iload_n 3, 1) := by decide +kernel
theorem dLaw_law_120_539 : decode code 539 = .ok (.iconst 1, 1) := by decide +kernel
theorem dLaw_law_120_540 : decode code 540 = .ok (.iadd, 1) := by decide +kernel
theorem dLaw_law_120_541 : decode code 541 = .ok (.iaload, 1) := by decide +kernel
theorem dLaw_law_120_542 : decode code 542 = .ok (.aload_n 0, 1) := by decide +kernel
theorem dLaw_law_120_543 : decode code 543 = .ok (.iload_n 3, 1) := by decide +kernel
theorem dLaw_law_120_544 : decode code 544 = .ok (.iconst 2, 1) := by decide +kernel
theorem dLaw_law_120_545 : decode code 545 = .ok (.iadd, 1) := by decide +kernel
theorem dLaw_law_120_546 : decode code 546 = .ok (.iaload, 1) := by decide +kernel
theorem dLaw_law_120_547 : decode code 547 = .ok (.aload_n 0, 1) := by decide +kernel
theorem dLaw_law_120_548 : decode code 548 = .ok (.iload_n 3, 1) := by decide +kernel
theorem dLaw_law_120_549 : decode code 549 = .ok (.iconst 3, 1) := by decide +kernel
theorem dLaw_law_120_550 : decode code 550 = .ok (.iadd, 1) := by decide +kernel
theorem dLaw_law_120_551 : decode code 551 = .ok (.iaload, 1) := by decide +kernel
theorem dLaw_law_120_552 : decode code 552 = .ok (.aload_n 0, 1) := by decide +kernel
theorem dLaw_law_120_553 : decode code 553 = .ok (.iload_n 3, 1) := by decide +kernel
theorem dLaw_law_120_554 : decode code 554 = .ok (.iconst 4, 1) := by decide +kernel
theorem dLaw_law_120_555 : decode code 555 = .ok (.iadd, 1) := by decide +kernel
theorem dLaw_law_120_556 : decode code 556 = .ok (.iaload, 1) := by decide +kernel
theorem dLaw_law_120_557 : decode code 557 = .ok (.invokevirtual 58, 3) := by decide +kernel
theorem dLaw_law_120_560 : decode code 560 = .ok (.aload_n 2, 1) := by decide +kernel
theorem dLaw_law_120_561 : decode code 561 = .ok (.aload_n 0, 1) := by decide +kernel
theorem dLaw_law_120_562 : decode code 562 = .ok (.iload_n 3, 1) := by decide +kernel
theorem dLaw_law_120_563 : decode code 563 = .ok (.iconst 1, 1) := by decide +kernel
theorem dLaw_law_120_564 : decode code 564 = .ok (.iadd, 1) := by decide +kernel
theorem dLaw_law_120_565 : decode code 565 = .ok (.iaload, 1) := by decide +kernel
theorem dLaw_law_120_566 : decode code 566 = .ok (.aload_n 0, 1) := by decide +kernel
theorem dLaw_law_120_567 : decode code 567 = .ok (.iload_n 3, 1) := by decide +kernel
theorem dLaw_law_120_568 : decode code 568 = .ok (.iconst 2, 1) := by decide +kernel
theorem dLaw_law_120_569 : decode code 569 = .ok (.iadd, 1) := by decide +kernel
theorem dLaw_law_120_570 : decode code 570 = .ok (.iaload, 1) := by decide +kernel
theorem dLaw_law_120_571 : decode code 571 = .ok (.aload_n 0, 1) := by decide +kernel
theorem dLaw_law_120_572 : decode code 572 = .ok (.iload_n 3, 1) := by decide +kernel
theorem dLaw_law_120_573 : decode code 573 = .ok (.iconst 3, 1) := by decide +kernel
theorem dLaw_law_120_574 : decode code 574 = .ok (.iadd, 1) := by decide +kernel
theorem dLaw_law_120_575 : decode code 575 = .ok (.iaload, 1) := by decide +kernel
theorem dLaw_law_120_576 : decode code 576 = .ok (.aload_n 0, 1) := by decide +kernel
theorem dLaw_law_120_577 : decode code 577 = .ok (.iload_n 3, 1) := by decide +kernel
theorem dLaw_law_120_578 : decode code 578 = .ok (.iconst 4, 1) := by decide +kernel
theorem dLaw_law_120_579 : decode code 579 = .ok (.iadd, 1) := by decide +kernel
theorem dLaw_law_120_580 : decode code 580 = .ok (.iaload, 1) := by decide +kernel
theorem dLaw_law_120_581 : decode code 581 = .ok (.invokevirtual 62, 3) := by decide +kernel
theorem dLaw_law_120_584 : decode code 584 = .ok (.if_icmp .eq 828, 3) := by decide +kernel
theorem dLaw_law_120_589 : decode code 589 = .ok (.aload_n 1, 1) := by decide +kernel
theorem dLaw_law_120_590 : decode code 590 = .ok (.aload_n 0, 1) := by decide +kernel
theorem dLaw_law_120_591 : decode code 591 = .ok (.iload_n 3, 1) := by decide +kernel
theorem dLaw_law_120_592 : decode code 592 = .ok (.iconst 1, 1) := by decide +kernel
theorem dLaw_law_120_593 : decode code 593 = .ok (.iadd, 1) := by decide +kernel
theorem dLaw_law_120_594 : decode code 594 = .ok (.iaload, 1) := by decide +kernel
theorem dLaw_law_120_595 : decode code 595 = .ok (.aload_n 0, 1) := by decide +kernel
theorem dLaw_law_120_596 : decode code 596 = .ok (.iload_n 3, 1) := by decide +kernel
theorem dLaw_law_120_597 : decode code 597 = .ok (.iconst 2, 1) := by decide +kernel
theorem dLaw_law_120_598 : decode code 598 = .ok (.iadd, 1) := by decide +kernel
theorem dLaw_law_120_599 : decode code 599 = .ok (.iaload, 1) := by decide +kernel
theorem dLaw_law_120_600 : decode code 600 = .ok (.invokevirtual 63, 3) := by decide +kernel
theorem dLaw_law_120_603 : decode code 603 = .ok (.aload_n 2, 1) := by decide +kernel
theorem dLaw_law_120_604 : decode code 604 = .ok (.aload_n 0, 1) := by decide +kernel
theorem dLaw_law_120_605 : decode code 605 = .ok (.iload_n 3, 1) := by decide +kernel
theorem dLaw_law_120_606 : decode code 606 = .ok (.iconst 1, 1) := by decide +kernel
theorem dLaw_law_120_607 : decode code 607 = .ok (.iadd, 1) := by decide +kernel
theorem dLaw_law_120_608 : decode code 608 = .ok (.iaload, 1) := by decide +kernel
theorem dLaw_law_120_609 : decode code 609 = .ok (.aload_n 0, 1) := by decide +kernel
theorem dLaw_law_120_610 : decode code 610 = .ok (.iload_n 3, 1) := by decide +kernel
theorem dLaw_law_120_611 : decode code 611 = .ok (.iconst 2, 1) := by decide +kernel
theorem dLaw_law_120_612 : decode code 612 = .ok (.iadd, 1) := by decide +kernel
theorem dLaw_law_120_613 : decode code 613 = .ok (.iaload, 1) := by decide +kernel
theorem dLaw_law_120_614 : decode code 614 = .ok (.invokevirtual 66, 3) := by decide +kernel
theorem dLaw_law_120_617 : decode code 617 = .ok (.if_icmp .eq 795, 3) := by decide +kernel
theorem dLaw_law_120_622 : decode code 622 = .ok (.aload_n 1, 1) := by decide +kernel
theorem dLaw_law_120_623 : decode code 623 = .ok (.aload_n 0, 1) := by decide +kernel
theorem dLaw_law_120_624 : decode code 624 = .ok (.iload_n 3, 1) := by decide +kernel
theorem dLaw_law_120_625 : decode code 625 = .ok (.iconst 1, 1) := by decide +kernel
theorem dLaw_law_120_626 : decode code 626 = .ok (.iadd, 1) := by decide +kernel
theorem dLaw_law_120_627 : decode code 627 = .ok (.iaload, 1) := by decide +kernel
theorem dLaw_law_120_628 : decode code 628 = .ok (.aload_n 0, 1) := by decide +kernel
theorem dLaw_law_120_629 : decode code 629 = .ok (.iload_n 3, 1) := by decide +kernel
theorem dLaw_law_120_630 : decode code 630 = .ok (.iconst 2, 1) := by decide +kernel
theorem dLaw_law_120_631 : decode code 631 = .ok (.iadd, 1) := by decide +kernel
theorem dLaw_law_120_632 : decode code 632 = .ok (.iaload, 1) := by decide +kernel
theorem dLaw_law_120_633 : decode code 633 = .ok (.invokevirtual 67, 3) := by decide +kernel
theorem dLaw_law_120_636 : decode code 636 = .ok (.aload_n 2, 1) := by decide +kernel
theorem dLaw_law_120_637 : decode code 637 = .ok (.aload_n 0, 1) := by decide +kernel
theorem dLaw_law_120_638 : decode code 638 = .ok (.iload_n 3, 1) := by decide +kernel
theorem dLaw_law_120_639 : decode code 639 = .ok (.iconst 1, 1) := by decide +kernel
theorem dLaw_law_120_640 : decode code 640 = .ok (.iadd, 1) := by decide +kernel
theorem dLaw_law_120_641 : decode code 641 = .ok (.iaload, 1) := by decide +kernel
theorem dLaw_law_120_642 : decode code 642 = .ok (.aload_n 0, 1) := by decide +kernel
theorem dLaw_law_120_643 : decode code 643 = .ok (.iload_n 3, 1) := by decide +kernel
theorem dLaw_law_120_644 : decode code 644 = .ok (.iconst 2, 1) := by decide +kernel
theorem dLaw_law_120_645 : decode code 645 = .ok (.iadd, 1) := by decide +kernel
theorem dLaw_law_120_646 : decode code 646 = .ok (.iaload, 1) := by decide +kernel
theorem dLaw_law_120_647 : decode code 647 = .ok (.invokevirtual 70, 3) := by decide +kernel
theorem dLaw_law_120_650 : decode code 650 = .ok (.if_icmp .eq 762, 3) := by decide +kernel
theorem dLaw_law_120_655 : decode code 655 = .ok (.aload_n 1, 1) := by decide +kernel
theorem dLaw_law_120_656 : decode code 656 = .ok (.aload_n 0, 1) := by decide +kernel
theorem dLaw_law_120_657 : decode code 657 = .ok (.iload_n 3, 1) := by decide +kernel
theorem dLaw_law_120_658 : decode code 658 = .ok (.iconst 1, 1) := by decide +kernel
theorem dLaw_law_120_659 : decode code 659 = .ok (.iadd, 1) := by decide +kernel
theorem dLaw_law_120_660 : decode code 660 = .ok (.iaload, 1) := by decide +kernel
theorem dLaw_law_120_661 : decode code 661 = .ok (.aload_n 0, 1) := by decide +kernel
theorem dLaw_law_120_662 : decode code 662 = .ok (.iload_n 3, 1) := by decide +kernel
theorem dLaw_law_120_663 : decode code 663 = .ok (.iconst 2, 1) := by decide +kernel
theorem dLaw_law_120_664 : decode code 664 = .ok (.iadd, 1) := by decide +kernel
theorem dLaw_law_120_665 : decode code 665 = .ok (.iaload, 1) := by decide +kernel
theorem dLaw_law_120_666 : decode code 666 = .ok (.aload_n 0, 1) := by decide +kernel
theorem dLaw_law_120_667 : decode code 667 = .ok (.iload_n 3, 1) := by decide +kernel
theorem dLaw_law_120_668 : decode code 668 = .ok (.iconst 3, 1) := by decide +kernel
theorem dLaw_law_120_669 : decode code 669 = .ok (.iadd, 1) := by decide +kernel
theorem dLaw_law_120_670 : decode code 670 = .ok (.iaload, 1) := by decide +kernel
theorem dLaw_law_120_671 : decode code 671 = .ok (.invokevirtual 71, 3) := by decide +kernel
theorem dLaw_law_120_674 : decode code 674 = .ok (.aload_n 2, 1) := by decide +kernel
theorem dLaw_law_120_675 : decode code 675 = .ok (.aload_n 0, 1) := by decide +kernel
theorem dLaw_law_120_676 : decode code 676 = .ok (.iload_n 3, 1) := by decide +kernel
theorem dLaw_law_120_677 : decode code 677 = .ok (.iconst 1, 1) := by decide +kernel
theorem dLaw_law_120_678 : decode code 678 = .ok (.iadd, 1) := by decide +kernel
theorem dLaw_law_120_679 : decode code 679 = .ok (.iaload, 1) := by decide +kernel
theorem dLaw_law_120_680 : decode code 680 = .ok (.aload_n 0, 1) := by decide +kernel
theorem dLaw_law_120_681 : decode code 681 = .ok (.iload_n 3, 1) := by decide +kernel
theorem dLaw_law_120_682 : decode code 682 = .ok (.iconst 2, 1) := by decide +kernel
theorem dLaw_law_120_683 : decode code 683 = .ok (.iadd, 1) := by decide +kernel
theorem dLaw_law_120_684 : decode code 684 = .ok (.iaload, 1) := by decide +kernel
theorem dLaw_law_120_685 : decode code 685 = .ok (.aload_n 0, 1) := by decide +kernel
theorem dLaw_law_120_686 : decode code 686 = .ok (.iload_n 3, 1) := by decide +kernel
theorem dLaw_law_120_687 : decode code 687 = .ok (.iconst 3, 1) := by decide +kernel
theorem dLaw_law_120_688 : decode code 688 = .ok (.iadd, 1) := by decide +kernel
theorem dLaw_law_120_689 : decode code 689 = .ok (.iaload, 1) := by decide +kernel
theorem dLaw_law_120_690 : decode code 690 = .ok (.invokevirtual 74, 3) := by decide +kernel
theorem dLaw_law_120_693 : decode code 693 = .ok (.if_icmp .eq 719, 3) := by decide +kernel
theorem dLaw_law_120_698 : decode code 698 = .ok (.aload_n 1, 1) := by decide +kernel
theorem dLaw_law_120_699 : decode code 699 = .ok (.aload_n 0, 1) := by decide +kernel
theorem dLaw_law_120_700 : decode code 700 = .ok (.iload_n 3, 1) := by decide +kernel
theorem dLaw_law_120_701 : decode code 701 = .ok (.iconst 1, 1) := by decide +kernel
theorem dLaw_law_120_702 : decode code 702 = .ok (.iadd, 1) := by decide +kernel
theorem dLaw_law_120_703 : decode code 703 = .ok (.iaload, 1) := by decide +kernel
theorem dLaw_law_120_704 : decode code 704 = .ok (.aload_n 0, 1) := by decide +kernel
theorem dLaw_law_120_705 : decode code 705 = .ok (.iload_n 3, 1) := by decide +kernel
theorem dLaw_law_120_706 : decode code 706 = .ok (.iconst 2, 1) := by decide +kernel
theorem dLaw_law_120_707 : decode code 707 = .ok (.iadd, 1) := by decide +kernel
theorem dLaw_law_120_708 : decode code 708 = .ok (.iaload, 1) := by decide +kernel
theorem dLaw_law_120_709 : decode code 709 = .ok (.invokevirtual 75, 3) := by decide +kernel
theorem dLaw_law_120_712 : decode code 712 = .ok (.aload_n 2, 1) := by decide +kernel
theorem dLaw_law_120_713 : decode code 713 = .ok (.aload_n 0, 1) := by decide +kernel
theorem dLaw_law_120_714 : decode code 714 = .ok (.iload_n 3, 1) := by decide +kernel
theorem dLaw_law_120_715 : decode code 715 = .ok (.iconst 1, 1) := by decide +kernel
theorem dLaw_law_120_716 : decode code 716 = .ok (.iadd, 1) := by decide +kernel
theorem dLaw_law_120_717 : decode code 717 = .ok (.iaload, 1) := by decide +kernel
theorem dLaw_law_120_718 : decode code 718 = .ok (.aload_n 0, 1) := by decide +kernel
theorem dLaw_law_120_719 : decode code 719 = .ok (.iload_n 3, 1) := by decide +kernel
theorem dLaw_law_120_720 : decode code 720 = .ok (.iconst 2, 1) := by decide +kernel
theorem dLaw_law_120_721 : decode code 721 = .ok (.iadd, 1) := by decide +kernel
theorem dLaw_law_120_722 : decode code 722 = .ok (.iaload, 1) := by decide +kernel
theorem dLaw_law_120_723 : decode code 723 = .ok (.invokevirtual 78, 3) := by decide +kernel
theorem dLaw_law_120_726 : decode code 726 = .ok (.if_icmp .eq 686, 3) := by decide +kernel
theorem dLaw_law_120_731 : decode code 731 = .ok (.aload_n 1, 1) := by decide +kernel
theorem dLaw_law_120_732 : decode code 732 = .ok (.aload_n 0, 1) := by decide +kernel
theorem dLaw_law_120_733 : decode code 733 = .ok (.iload_n 3, 1) := by decide +kernel
theorem dLaw_law_120_734 : decode code 734 = .ok (.iconst 1, 1) := by decide +kernel
theorem dLaw_law_120_735 : decode code 735 = .ok (.iadd, 1) := by decide +kernel
theorem dLaw_law_120_736 : decode code 736 = .ok (.iaload, 1) := by decide +kernel
theorem dLaw_law_120_737 : decode code 737 = .ok (.aload_n 0, 1) := by decide +kernel
theorem dLaw_law_120_738 : decode code 738 = .ok (.iload_n 3, 1) := by decide +kernel
theorem dLaw_law_120_739 : decode code 739 = .ok (.iconst 2, 1) := by decide +kernel
theorem dLaw_law_120_740 : decode code 740 = .ok (.iadd, 1) := by decide +kernel
theorem dLaw_law_120_741 : decode code 741 = .ok (.iaload, 1) := by decide +kernel
theorem dLaw_law_120_742 : decode code 742 = .ok (.invokevirtual 79, 3) := by decide +kernel
theorem dLaw_law_120_745 : decode code 745 = .ok (.aload_n 2, 1) := by decide +kernel
theorem dLaw_law_120_746 : decode code 746 = .ok (.aload_n 0, 1) := by decide +kernel
theorem dLaw_law_120_747 : decode code 747 = .ok (.iload_n 3, 1) := by decide +kernel
theorem dLaw_law_120_748 : decode code 748 = .ok (.iconst 1, 1) := by decide +kernel
theorem dLaw_law_120_749 : decode code 749 = .ok (.iadd, 1) := by decide +kernel
theorem dLaw_law_120_750 : decode code 750 = .ok (.iaload, 1) := by decide +kernel
theorem dLaw_law_120_751 : decode code 751 = .ok (.aload_n 0, 1) := by decide +kernel
theorem dLaw_law_120_752 : decode code 752 = .ok (.iload_n 3, 1) := by decide +kernel
theorem dLaw_law_120_753 : decode code 753 = .ok (.iconst 2, 1) := by decide +kernel
theorem dLaw_law_120_754 : decode code 754 = .ok (.iadd, 1) := by decide +kernel
theorem dLaw_law_120_755 : decode code 755 = .ok (.iaload, 1) := by decide +kernel
theorem dLaw_law_120_756 : decode code 756 = .ok (.invokevirtual 82, 3) := by decide +kernel
theorem dLaw_law_120_759 : decode code 759 = .ok (.if_icmp .eq 653, 3) := by decide +kernel
theorem dLaw_law_120_764 : decode code 764 = .ok (.aload_n 1, 1) := by decide +kernel
theorem dLaw_law_120_765 : decode code 765 = .ok (.aload_n 0, 1) := by decide +kernel
theorem dLaw_law_120_766 : decode code 766 = .ok (.iload_n 3, 1) := by decide +kernel
theorem dLaw_law_120_767 : decode code 767 = .ok (.iconst 1, 1) := by decide +kernel
theorem dLaw_law_120_768 : decode code 768 = .ok (.iadd, 1) := by decide +kernel
theorem dLaw_law_120_769 : decode code 769 = .ok (.iaload, 1) := by decide +kernel
theorem dLaw_law_120_770 : decode code 770 = .ok (.invokevirtual 83, 3) := by decide +kernel
theorem dLaw_law_120_773 : decode code 773 = .ok (.aload_n 2, 1) := by decide +kernel
theorem dLaw_law_120_774 : decode code 774 = .ok (.aload_n 0, 1) := by decide +kernel
theorem dLaw_law_120_775 : decode code 775 = .ok (.iload_n 3, 1) := by decide +kernel
theorem dLaw_law_120_776 : decode code 776 = .ok (.iconst 1, 1) := by decide +kernel
theorem dLaw_law_120_777 : decode code 777 = .ok (.iadd, 1) := by decide +kernel
theorem dLaw_law_120_778 : decode code 778 = .ok (.iaload, 1) := by decide +kernel
theorem dLaw_law_120_779 : decode code 779 = .ok (.invokevirtual 86, 3) := by decide +kernel
theorem dLaw_law_120_782 : decode code 782 = .ok (.if_icmp .eq 630, 3) := by decide +kernel
theorem dLaw_law_120_787 : decode code 787 = .ok (.aload_n 1, 1) := by decide +kernel
theorem dLaw_law_120_788 : decode code 788 = .ok (.aload_n 0, 1) := by decide +kernel
theorem dLaw_law_120_789 : decode code 789 = .ok (.iload_n 3, 1) := by decide +kernel
theorem dLaw_law_120_790 : decode code 790 = .ok (.iconst 1, 1) := by decide +kernel
theorem dLaw_law_120_791 : decode code 791 = .ok (.iadd, 1) := by decide +kernel
theorem dLaw_law_120_792 : decode code 792 = .ok (.iaload, 1) := by decide +kernel
theorem dLaw_law_120_793 : decode code 793 = .ok (.invokevirtual 87, 3) := by decide +kernel
theorem dLaw_law_120_796 : decode code 796 = .ok (.aload_n 2, 1) := by decide +kernel
theorem dLaw_law_120_797 : decode code 797 = .ok (.aload_n 0, 1) := by decide +kernel
theorem dLaw_law_120_798 : decode code 798 = .ok (.iload_n 3, 1) := by decide +kernel
theorem dLaw_law_120_799 : decode code 799 = .ok (.iconst 1, 1) := by decide +kernel
theorem dLaw_law_120_800 : decode code 800 = .ok (.iadd, 1) := by decide +kernel
theorem dLaw_law_120_801 : decode code 801 = .ok (.iaload, 1) := by decide +kernel
theorem dLaw_law_120_802 : decode code 802 = .ok (.invokevirtual 90, 3) := by decide +kernel
theorem dLaw_law_120_805 : decode code 805 = .ok (.if_icmp .eq 607, 3) := by decide +kernel
theorem dLaw_law_120_810 : decode code 810 = .ok (.aload_n 1, 1) := by decide +kernel
theorem dLaw_law_120_811 : decode code 811 = .ok (.aload_n 0, 1) := by decide +kernel
theorem dLaw_law_120_812 : decode code 812 = .ok (.iload_n 3, 1) := by decide +kernel
theorem dLaw_law_120_813 : decode code 813 = .ok (.iconst 1, 1) := by decide +kernel
theorem dLaw_law_120_814 : decode code 814 = .ok (.iadd, 1) := by decide +kernel
theorem dLaw_law_120_815 : decode code 815 = .ok (.iaload, 1) := by decide +kernel
theorem dLaw_law_120_816 : decode code 816 = .ok (.aload_n 0, 1) := by decide +kernel
theorem dLaw_law_120_817 : decode code 817 = .ok (.iload_n 3, 1) := by decide +kernel
theorem dLaw_law_120_818 : decode code 818 = .ok (.iconst 2, 1) := by decide +kernel
theorem dLaw_law_120_819 : decode code 819 = .ok (.iadd, 1) := by decide +kernel
theorem dLaw_law_120_820 : decode code 820 = .ok (.iaload, 1) := by decide +kernel
theorem dLaw_law_120_821 : decode code 821 = .ok (.invokevirtual 91, 3) := by decide +kernel
theorem dLaw_law_120_824 : decode code 824 = .ok (.aload_n 2, 1) := by decide +kernel
theorem dLaw_law_120_825 : decode code 825 = .ok (.aload_n 0, 1) := by decide +kernel
theorem dLaw_law_120_826 : decode code 826 = .ok (.iload_n 3, 1) := by decide +kernel
theorem dLaw_law_120_827 : decode code 827 = .ok (.iconst 1, 1) := by decide +kernel
theorem dLaw_law_120_828 : decode code 828 = .ok (.iadd, 1) := by decide +kernel
theorem dLaw_law_120_829 : decode code 829 = .ok (.iaload, 1) := by decide +kernel
theorem dLaw_law_120_830 : decode code 830 = .ok (.aload_n 0, 1) := by decide +kernel
theorem dLaw_law_120_831 : decode code 831 = .ok (.iload_n 3, 1) := by decide +kernel
theorem dLaw_law_120_832 : decode code 832 = .ok (.iconst 2, 1) := by decide +kernel
theorem dLaw_law_120_833 : decode code 833 = .ok (.iadd, 1) := by decide +kernel
theorem dLaw_law_120_834 : decode code 834 = .ok (.iaload, 1) := by decide +kernel
theorem dLaw_law_120_835 : decode code 835 = .ok (.invokevirtual 94, 3) := by decide +kernel
theorem dLaw_law_120_838 : decode code 838 = .ok (.if_icmp .eq 574, 3) := by decide +kernel
theorem dLaw_law_120_843 : decode code 843 = .ok (.aload_n 1, 1) := by decide +kernel
theorem dLaw_law_120_844 : decode code 844 = .ok (.aload_n 0, 1) := by decide +kernel
theorem dLaw_law_120_845 : decode code 845 = .ok (.iload_n 3, 1) := by decide +kernel
theorem dLaw_law_120_846 : decode code 846 = .ok (.iconst 1, 1) := by decide +kernel
theorem dLaw_law_120_847 : decode code 847 = .ok (.iadd, 1) := by decide +kernel
theorem dLaw_law_120_848 : decode code 848 = .ok (.iaload, 1) := by decide +kernel
theorem dLaw_law_120_849 : decode code 849 = .ok (.aload_n 0, 1) := by decide +kernel
theorem dLaw_law_120_850 : decode code 850 = .ok (.iload_n 3, 1) := by decide +kernel
theorem dLaw_law_120_851 : decode code 851 = .ok (.iconst 2, 1) := by decide +kernel
theorem dLaw_law_120_852 : decode code 852 = .ok (.iadd, 1) := by decide +kernel
theorem dLaw_law_120_853 : decode code 853 = .ok (.iaload, 1) := by decide +kernel
theorem dLaw_law_120_854 : decode code 854 = .ok (.aload_n 0, 1) := by decide +kernel
theorem dLaw_law_120_855 : decode code 855 = .ok (.iload_n 3, 1) := by decide +kernel
theorem dLaw_law_120_856 : decode code 856 = .ok (.iconst 3, 1) := by decide +kernel
theorem dLaw_law_120_857 : decode code 857 = .ok (.iadd, 1) := by decide +kernel
theorem dLaw_law_120_858 : decode code 858 = .ok (.iaload, 1) := by decide +kernel
theorem dLaw_law_120_859 : decode code 859 = .ok (.invokevirtual 95, 3) := by decide +kernel
theorem dLaw_law_120_862 : decode code 862 = .ok (.aload_n 2, 1) := by decide +kernel
theorem dLaw_law_120_863 : decode code 863 = .ok (.aload_n 0, 1) := by decide +kernel
theorem dLaw_law_120_864 : decode code 864 = .ok (.iload_n 3, 1) := by decide +kernel
theorem dLaw_law_120_865 : decode code 865 = .ok (.iconst 1, 1) := by decide +kernel
theorem dLaw_law_120_866 : decode code 866 = .ok (.iadd, 1) := by decide +kernel
theorem dLaw_law_120_867 : decode code 867 = .ok (.iaload, 1) := by decide +kernel
theorem dLaw_law_120_868 : decode code 868 = .ok (.aload_n 0, 1) := by decide +kernel
theorem dLaw_law_120_869 : decode code 869 = .ok (.iload_n 3, 1) := by decide +kernel
theorem dLaw_law_120_870 : decode code 870 = .ok (.iconst 2, 1) := by decide +kernel
theorem dLaw_law_120_871 : decode code 871 = .ok (.iadd, 1) := by decide +kernel
theorem dLaw_law_120_872 : decode code 872 = .ok (.iaload, 1) := by decide +kernel
theorem dLaw_law_120_873 : decode code 873 = .ok (.aload_n 0, 1) := by decide +kernel
theorem dLaw_law_120_874 : decode code 874 = .ok (.iload_n 3, 1) := by decide +kernel
theorem dLaw_law_120_875 : decode code 875 = .ok (.iconst 3, 1) := by decide +kernel
theorem dLaw_law_120_876 : decode code 876 = .ok (.iadd, 1) := by decide +kernel
theorem dLaw_law_120_877 : decode code 877 = .ok (.iaload, 1) := by decide +kernel
theorem dLaw_law_120_878 : decode code 878 = .ok (.invokevirtual 98, 3) := by decide +kernel
theorem dLaw_law_120_881 : decode code 881 = .ok (.if_icmp .eq 531, 3) := by decide +kernel
theorem dLaw_law_120_886 : decode code 886 = .ok (.aload_n 1, 1) := by decide +kernel
theorem dLaw_law_120_887 : decode code 887 = .ok (.invokevirtual 99, 3) := by decide +kernel
theorem dLaw_law_120_890 : decode code 890 = .ok (.aload_n 2, 1) := by decide +kernel
theorem dLaw_law_120_891 : decode code 891 = .ok (.invokevirtual 102, 3) := by decide +kernel
theorem dLaw_law_120_894 : decode code 894 = .ok (.if_icmp .eq 518, 3) := by decide +kernel
theorem dLaw_law_120_899 : decode code 899 = .ok (.aload_n 1, 1) := by decide +kernel
theorem dLaw_law_120_900 : decode code 900 = .ok (.aload_n 0, 1) := by decide +kernel
theorem dLaw_law_120_901 : decode code 901 = .ok (.iload_n 3, 1) := by decide +kernel
theorem dLaw_law_120_902 : decode code 902 = .ok (.iconst 1, 1) := by decide +kernel
theorem dLaw_law_120_903 : decode code 903 = .ok (.iadd, 1) := by decide +kernel
theorem dLaw_law_120_904 : decode code 904 = .ok (.iaload, 1) := by decide +kernel
theorem dLaw_law_120_905 : decode code 905 = .ok (.invokevirtual 103, 3) := by decide +kernel
theorem dLaw_law_120_908 : decode code 908 = .ok (.aload_n 2, 1) := by decide +kernel
theorem dLaw_law_120_909 : decode code 909 = .ok (.aload_n 0, 1) := by decide +kernel
theorem dLaw_law_120_910 : decode code 910 = .ok (.iload_n 3, 1) := by decide +kernel
theorem dLaw_law_120_911 : decode code 911 = .ok (.iconst 1, 1) := by decide +kernel
theorem dLaw_law_120_912 : decode code 912 = .ok (.iadd, 1) := by decide +kernel
theorem dLaw_law_120_913 : decode code 913 = .ok (.iaload, 1) := by decide +kernel
theorem dLaw_law_120_914 : decode code 914 = .ok (.invokevirtual 106, 3) := by decide +kernel
theorem dLaw_law_120_917 : decode code 917 = .ok (.if_icmp .eq 495, 3) := by decide +kernel
theorem dLaw_law_120_922 : decode code 922 = .ok (.aload_n 1, 1) := by decide +kernel
theorem dLaw_law_120_923 : decode code 923 = .ok (.invokevirtual 107, 3) := by decide +kernel
theorem dLaw_law_120_926 : decode code 926 = .ok (.aload_n 2, 1) := by decide +kernel
theorem dLaw_law_120_927 : decode code 927 = .ok (.invokevirtual 110, 3) := by decide +kernel
theorem dLaw_law_120_930 : decode code 930 = .ok (.if_icmp .eq 482, 3) := by decide +kernel
theorem dLaw_law_120_935 : decode code 935 = .ok (.aload_n 1, 1) := by decide +kernel
theorem dLaw_law_120_936 : decode code 936 = .ok (.aload_n 0, 1) := by decide +kernel
theorem dLaw_law_120_937 : decode code 937 = .ok (.iload_n 3, 1) := by decide +kernel
theorem dLaw_law_120_938 : decode code 938 = .ok (.iconst 1, 1) := by decide +kernel
theorem dLaw_law_120_939 : decode code 939 = .ok (.iadd, 1) := by decide +kernel
theorem dLaw_law_120_940 : decode code 940 = .ok (.iaload, 1) := by decide +kernel
theorem dLaw_law_120_941 : decode code 941 = .ok (.aload_n 0, 1) := by decide +kernel
theorem dLaw_law_120_942 : decode code 942 = .ok (.iload_n 3, 1) := by decide +kernel
theorem dLaw_law_120_943 : decode code 943 = .ok (.iconst 2, 1) := by decide +kernel
theorem dLaw_law_120_944 : decode code 944 = .ok (.iadd, 1) := by decide +kernel
theorem dLaw_law_120_945 : decode code 945 = .ok (.iaload, 1) := by decide +kernel
theorem dLaw_law_120_946 : decode code 946 = .ok (.invokevirtual 111, 3) := by decide +kernel
theorem dLaw_law_120_949 : decode code 949 = .ok (.aload_n 2, 1) := by decide +kernel
theorem dLaw_law_120_950 : decode code 950 = .ok (.aload_n 0, 1) := by decide +kernel
theorem dLaw_law_120_951 : decode code 951 = .ok (.iload_n 3, 1) := by decide +kernel
theorem dLaw_law_120_952 : decode code 952 = .ok (.iconst 1, 1) := by decide +kernel
theorem dLaw_law_120_953 : decode code 953 = .ok (.iadd, 1) := by decide +kernel
theorem dLaw_law_120_954 : decode code 954 = .ok (.iaload, 1) := by decide +kernel
theorem dLaw_law_120_955 : decode code 955 = .ok (.aload_n 0, 1) := by decide +kernel
theorem dLaw_law_120_956 : decode code 956 = .ok (.iload_n 3, 1) := by decide +kernel
theorem dLaw_law_120_957 : decode code 957 = .ok (.iconst 2, 1) := by decide +kernel
theorem dLaw_law_120_958 : decode code 958 = .ok (.iadd, 1) := by decide +kernel
theorem dLaw_law_120_959 : decode code 959 = .ok (.iaload, 1) := by decide +kernel
theorem dLaw_law_120_960 : decode code 960 = .ok (.invokevirtual 114, 3) := by decide +kernel
theorem dLaw_law_120_963 : decode code 963 = .ok (.if_icmp .eq 449, 3) := by decide +kernel
theorem dLaw_law_120_968 : decode code 968 = .ok (.aload_n 1, 1) := by decide +kernel
theorem dLaw_law_120_969 : decode code 969 = .ok (.aload_n 0, 1) := by decide +kernel
theorem dLaw_law_120_970 : decode code 970 = .ok (.iload_n 3, 1) := by decide +kernel
theorem dLaw_law_120_971 : decode code 971 = .ok (.iconst 1, 1) := by decide +kernel
theorem dLaw_law_120_972 : decode code 972 = .ok (.iadd, 1) := by decide +kernel
theorem dLaw_law_120_973 : decode code 973 = .ok (.iaload, 1) := by decide +kernel
theorem dLaw_law_120_974 : decode code 974 = .ok (.aload_n 0, 1) := by decide +kernel
theorem dLaw_law_120_975 : decode code 975 = .ok (.iload_n 3, 1) := by decide +kernel
theorem dLaw_law_120_976 : decode code 976 = .ok (.iconst 2, 1) := by decide +kernel
theorem dLaw_law_120_977 : decode code 977 = .ok (.iadd, 1) := by decide +kernel
theorem dLaw_law_120_978 : decode code 978 = .ok (.iaload, 1) := by decide +kernel
theorem dLaw_law_120_979 : decode code 979 = .ok (.invokevirtual 115, 3) := by decide +kernel
theorem dLaw_law_120_982 : decode code 982 = .ok (.aload_n 2, 1) := by decide +kernel
theorem dLaw_law_120_983 : decode code 983 = .ok (.aload_n 0, 1) := by decide +kernel
theorem dLaw_law_120_984 : decode code 984 = .ok (.iload_n 3, 1) := by decide +kernel
theorem dLaw_law_120_985 : decode code 985 = .ok (.iconst 1, 1) := by decide +kernel
theorem dLaw_law_120_986 : decode code 986 = .ok (.iadd, 1) := by decide +kernel
theorem dLaw_law_120_987 : decode code 987 = .ok (.iaload, 1) := by decide +kernel
theorem dLaw_law_120_988 : decode code 988 = .ok (.aload_n 0, 1) := by decide +kernel
theorem dLaw_law_120_989 : decode code 989 = .ok (.iload_n 3, 1) := by decide +kernel
theorem dLaw_law_120_990 : decode code 990 = .ok (.iconst 2, 1) := by decide +kernel
theorem dLaw_law_120_991 : decode code 991 = .ok (.iadd, 1) := by decide +kernel
theorem dLaw_law_120_992 : decode code 992 = .ok (.iaload, 1) := by decide +kernel
theorem dLaw_law_120_993 : decode code 993 = .ok (.invokevirtual 118, 3) := by decide +kernel
theorem dLaw_law_120_996 : decode code 996 = .ok (.if_icmp .eq 416, 3) := by decide +kernel
theorem dLaw_law_120_1001 : decode code 1001 = .ok (.aload_n 1, 1) := by decide +kernel
theorem dLaw_law_120_1002 : decode code 1002 = .ok (.aload_n 0, 1) := by decide +kernel
theorem dLaw_law_120_1003 : decode code 1003 = .ok (.iload_n 3, 1) := by decide +kernel
theorem dLaw_law_120_1004 : decode code 1004 = .ok (.iconst 1, 1) := by decide +kernel
theorem dLaw_law_120_1005 : decode code 1005 = .ok (.iadd, 1) := by decide +kernel
theorem dLaw_law_120_1006 : decode code 1006 = .ok (.iaload, 1) := by decide +kernel
theorem dLaw_law_120_1007 : decode code 1007 = .ok (.invokevirtual 119, 3) := by decide +kernel
theorem dLaw_law_120_1010 : decode code 1010 = .ok (.aload_n 2, 1) := by decide +kernel
theorem dLaw_law_120_1011 : decode code 1011 = .ok (.aload_n 0, 1) := by decide +kernel
theorem dLaw_law_120_1012 : decode code 1012 = .ok (.iload_n 3, 1) := by decide +kernel
theorem dLaw_law_120_1013 : decode code 1013 = .ok (.iconst 1, 1) := by decide +kernel
theorem dLaw_law_120_1014 : decode code 1014 = .ok (.iadd, 1) := by decide +kernel
theorem dLaw_law_120_1015 : decode code 1015 = .ok (.iaload, 1) := by decide +kernel
theorem dLaw_law_120_1016 : decode code 1016 = .ok (.invokevirtual 122, 3) := by decide +kernel
theorem dLaw_law_120_1019 : decode code 1019 = .ok (.if_icmp .eq 393, 3) := by decide +kernel
theorem dLaw_law_120_1024 : decode code 1024 = .ok (.aload_n 1, 1) := by decide +kernel
theorem dLaw_law_120_1025 : decode code 1025 = .ok (.aload_n 0, 1) := by decide +kernel
theorem dLaw_law_120_1026 : decode code 1026 = .ok (.iload_n 3, 1) := by decide +kernel
theorem dLaw_law_120_1027 : decode code 1027 = .ok (.iconst 1, 1) := by decide +kernel
theorem dLaw_law_120_1028 : decode code 1028 = .ok (.iadd, 1) := by decide +kernel
theorem dLaw_law_120_1029 : decode code 1029 = .ok (.iaload, 1) := by decide +kernel
theorem dLaw_law_120_1030 : decode code 1030 = .ok (.invokevirtual 123, 3) := by decide +kernel
theorem dLaw_law_120_1033 : decode code 1033 = .ok (.aload_n 2, 1) := by decide +kernel
theorem dLaw_law_120_1034 : decode code 1034 = .ok (.aload_n 0, 1) := by decide +kernel
theorem dLaw_law_120_1035 : decode code 1035 = .ok (.iload_n 3, 1) := by decide +kernel
theorem dLaw_law_120_1036 : decode code 1036 = .ok (.iconst 1, 1) := by decide +kernel
theorem dLaw_law_120_1037 : decode code 1037 = .ok (.iadd, 1) := by decide +kernel
theorem dLaw_law_120_1038 : decode code 1038 = .ok (.iaload, 1) := by decide +kernel
theorem dLaw_law_120_1039 : decode code 1039 = .ok (.invokevirtual 126, 3) := by decide +kernel
theorem dLaw_law_120_1042 : decode code 1042 = .ok (.if_icmp .eq 370, 3) := by decide +kernel
theorem dLaw_law_120_1047 : decode code 1047 = .ok (.aload_n 1, 1) := by decide +kernel
theorem dLaw_law_120_1048 : decode code 1048 = .ok (.aload_n 0, 1) := by decide +kernel
theorem dLaw_law_120_1049 : decode code 1049 = .ok (.iload_n 3, 1) := by decide +kernel
theorem dLaw_law_120_1050 : decode code 1050 = .ok (.iconst 1, 1) := by decide +kernel
theorem dLaw_law_120_1051 : decode code 1051 = .ok (.iadd, 1) := by decide +kernel
theorem dLaw_law_120_1052 : decode code 1052 = .ok (.iaload, 1) := by decide +kernel
theorem dLaw_law_120_1053 : decode code 1053 = .ok (.invokevirtual 127, 3) := by decide +kernel
theorem dLaw_law_120_1056 : decode code 1056 = .ok (.aload_n 2, 1) := by decide +kernel
theorem dLaw_law_120_1057 : decode code 1057 = .ok (.aload_n 0, 1) := by decide +kernel
theorem dLaw_law_120_1058 : decode code 1058 = .ok (.iload_n 3, 1) := by decide +kernel
theorem dLaw_law_120_1059 : decode code 1059 = .ok (.iconst 1, 1) := by decide +kernel
theorem dLaw_law_120_1060 : decode code 1060 = .ok (.iadd, 1) := by decide +kernel
theorem dLaw_law_120_1061 : decode code 1061 = .ok (.iaload, 1) := by decide +kernel
theorem dLaw_law_120_1062 : decode code 1062 = .ok (.invokevirtual 130, 3) := by decide +kernel
theorem dLaw_law_120_1065 : decode code 1065 = .ok (.if_icmp .eq 347, 3) := by decide +kernel
theorem dLaw_law_120_1070 : decode code 1070 = .ok (.aload_n 1, 1) := by decide +kernel
theorem dLaw_law_120_1071 : decode code 1071 = .ok (.invokevirtual 131, 3) := by decide +kernel
theorem dLaw_law_120_1074 : decode code 1074 = .ok (.aload_n 2, 1) := by decide +kernel
theorem dLaw_law_120_1075 : decode code 1075 = .ok (.invokevirtual 134, 3) := by decide +kernel
theorem dLaw_law_120_1078 : decode code 1078 = .ok (.if_icmp .eq 334, 3) := by decide +kernel
theorem dLaw_law_120_1083 : decode code 1083 = .ok (.aload_n 1, 1) := by decide +kernel
theorem dLaw_law_120_1084 : decode code 1084 = .ok (.invokevirtual 135, 3) := by decide +kernel
theorem dLaw_law_120_1087 : decode code 1087 = .ok (.aload_n 2, 1) := by decide +kernel
theorem dLaw_law_120_1088 : decode code 1088 = .ok (.invokevirtual 138, 3) := by decide +kernel
theorem dLaw_law_120_1091 : decode code 1091 = .ok (.if_icmp .eq 321, 3) := by decide +kernel
theorem dLaw_law_120_1096 : decode code 1096 = .ok (.aload_n 1, 1) := by decide +kernel
theorem dLaw_law_120_1097 : decode code 1097 = .ok (.aload_n 0, 1) := by decide +kernel
theorem dLaw_law_120_1098 : decode code 1098 = .ok (.iload_n 3, 1) := by decide +kernel
theorem dLaw_law_120_1099 : decode code 1099 = .ok (.iconst 1, 1) := by decide +kernel
theorem dLaw_law_120_1100 : decode code 1100 = .ok (.iadd, 1) := by decide +kernel
theorem dLaw_law_120_1101 : decode code 1101 = .ok (.iaload, 1) := by decide +kernel
theorem dLaw_law_120_1102 : decode code 1102 = .ok (.aload_n 0, 1) := by decide +kernel
theorem dLaw_law_120_1103 : decode code 1103 = .ok (.iload_n 3, 1) := by decide +kernel
theorem dLaw_law_120_1104 : decode code 1104 = .ok (.iconst 2, 1) := by decide +kernel
theorem dLaw_law_120_1105 : decode code 1105 = .ok (.iadd, 1) := by decide +kernel
theorem dLaw_law_120_1106 : decode code 1106 = .ok (.iaload, 1) := by decide +kernel
theorem dLaw_law_120_1107 : decode code 1107 = .ok (.invokevirtual 139, 3) := by decide +kernel
theorem dLaw_law_120_1110 : decode code 1110 = .ok (.aload_n 2, 1) := by decide +kernel
theorem dLaw_law_120_1111 : decode code 1111 = .ok (.aload_n 0, 1) := by decide +kernel
theorem dLaw_law_120_1112 : decode code 1112 = .ok (.iload_n 3, 1) := by decide +kernel
theorem dLaw_law_120_1113 : decode code 1113 = .ok (.iconst 1, 1) := by decide +kernel
theorem dLaw_law_120_1114 : decode code 1114 = .ok (.iadd, 1) := by decide +kernel
theorem dLaw_law_120_1115 : decode code 1115 = .ok (.iaload, 1) := by decide +kernel
theorem dLaw_law_120_1116 : decode code 1116 = .ok (.aload_n 0, 1) := by decide +kernel
theorem dLaw_law_120_1117 : decode code 1117 = .ok (.iload_n 3, 1) := by decide +kernel
theorem dLaw_law_120_1118 : decode code 1118 = .ok (.iconst 2, 1) := by decide +kernel
theorem dLaw_law_120_1119 : decode code 1119 = .ok (.iadd, 1) := by decide +kernel
theorem dLaw_law_120_1120 : decode code 1120 = .ok (.iaload, 1) := by decide +kernel
theorem dLaw_law_120_1121 : decode code 1121 = .ok (.invokevirtual 142, 3) := by decide +kernel
theorem dLaw_law_120_1124 : decode code 1124 = .ok (.if_icmp .eq 288, 3) := by decide +kernel
theorem dLaw_law_120_1129 : decode code 1129 = .ok (.aload_n 1, 1) := by decide +kernel
theorem dLaw_law_120_1130 : decode code 1130 = .ok (.aload_n 0, 1) := by decide +kernel
theorem dLaw_law_120_1131 : decode code 1131 = .ok (.iload_n 3, 1) := by decide +kernel
theorem dLaw_law_120_1132 : decode code 1132 = .ok (.iconst 1, 1) := by decide +kernel
theorem dLaw_law_120_1133 : decode code 1133 = .ok (.iadd, 1) := by decide +kernel
theorem dLaw_law_120_1134 : decode code 1134 = .ok (.iaload, 1) := by decide +kernel
theorem dLaw_law_120_1135 : decode code 1135 = .ok (.aload_n 0, 1) := by decide +kernel
theorem dLaw_law_120_1136 : decode code 1136 = .ok (.iload_n 3, 1) := by decide +kernel
theorem dLaw_law_120_1137 : decode code 1137 = .ok (.iconst 2, 1) := by decide +kernel
theorem dLaw_law_120_1138 : decode code 1138 = .ok (.iadd, 1) := by decide +kernel
theorem dLaw_law_120_1139 : decode code 1139 = .ok (.iaload, 1) := by decide +kernel
theorem dLaw_law_120_1140 : decode code 1140 = .ok (.invokevirtual 143, 3) := by decide +kernel
theorem dLaw_law_120_1143 : decode code 1143 = .ok (.aload_n 2, 1) := by decide +kernel
theorem dLaw_law_120_1144 : decode code 1144 = .ok (.aload_n 0, 1) := by decide +kernel
theorem dLaw_law_120_1145 : decode code 1145 = .ok (.iload_n 3, 1) := by decide +kernel
theorem dLaw_law_120_1146 : decode code 1146 = .ok (.iconst 1, 1) := by decide +kernel
theorem dLaw_law_120_1147 : decode code 1147 = .ok (.iadd, 1) := by decide +kernel
theorem dLaw_law_120_1148 : decode code 1148 = .ok (.iaload, 1) := by decide +kernel
theorem dLaw_law_120_1149 : decode code 1149 = .ok (.aload_n 0, 1) := by decide +kernel
theorem dLaw_law_120_1150 : decode code 1150 = .ok (.iload_n 3, 1) := by decide +kernel
theorem dLaw_law_120_1151 : decode code 1151 = .ok (.iconst 2, 1) := by decide +kernel
theorem dLaw_law_120_1152 : decode code 1152 = .ok (.iadd, 1) := by decide +kernel
theorem dLaw_law_120_1153 : decode code 1153 = .ok (.iaload, 1) := by decide +kernel
theorem dLaw_law_120_1154 : decode code 1154 = .ok (.invokevirtual 146, 3) := by decide +kernel
theorem dLaw_law_120_1157 : decode code 1157 = .ok (.if_icmp .eq 255, 3) := by decide +kernel
theorem dLaw_law_120_1162 : decode code 1162 = .ok (.aload_n 1, 1) := by decide +kernel
theorem dLaw_law_120_1163 : decode code 1163 = .ok (.aload_n 0, 1) := by decide +kernel
theorem dLaw_law_120_1164 : decode code 1164 = .ok (.iload_n 3, 1) := by decide +kernel
theorem dLaw_law_120_1165 : decode code 1165 = .ok (.iconst 1, 1) := by decide +kernel
theorem dLaw_law_120_1166 : decode code 1166 = .ok (.iadd, 1) := by decide +kernel
theorem dLaw_law_120_1167 : decode code 1167 = .ok (.iaload, 1) := by decide +kernel
theorem dLaw_law_120_1168 : decode code 1168 = .ok (.invokevirtual 147, 3) := by decide +kernel
theorem dLaw_law_120_1171 : decode code 1171 = .ok (.aload_n 2, 1) := by decide +kernel
theorem dLaw_law_120_1172 : decode code 1172 = .ok (.aload_n 0, 1) := by decide +kernel
theorem dLaw_law_120_1173 : decode code 1173 = .ok (.iload_n 3, 1) := by decide +kernel
theorem dLaw_law_120_1174 : decode code 1174 = .ok (.iconst 1, 1) := by decide +kernel
theorem dLaw_law_120_1175 : decode code 1175 = .ok (.iadd, 1) := by decide +kernel
theorem dLaw_law_120_1176 : decode code 1176 = .ok (.iaload, 1) := by decide +kernel
theorem dLaw_law_120_1177 : decode code 1177 = .ok (.invokevirtual 150, 3) := by decide +kernel
theorem dLaw_law_120_1180 : decode code 1180 = .ok (.if_icmp .eq 232, 3) := by decide +kernel
theorem dLaw_law_120_1185 : decode code 1185 = .ok (.aload_n 1, 1) := by decide +kernel
theorem dLaw_law_120_1186 : decode code 1186 = .ok (.invokevirtual 151, 3) := by decide +kernel
theorem dLaw_law_120_1189 : decode code 1189 = .ok (.aload_n 2, 1) := by decide +kernel
theorem dLaw_law_120_1190 : decode code 1190 = .ok (.invokevirtual 154, 3) := by decide +kernel
theorem dLaw_law_120_1193 : decode code 1193 = .ok (.if_icmp .eq 219, 3) := by decide +kernel
theorem dLaw_law_120_1198 : decode code 1198 = .ok (.aload_n 1, 1) := by decide +kernel
theorem dLaw_law_120_1199 : decode code 1199 = .ok (.aload_n 0, 1) := by decide +kernel
theorem dLaw_law_120_1200 : decode code 1200 = .ok (.iload_n 3, 1) := by decide +kernel
theorem dLaw_law_120_1201 : decode code 1201 = .ok (.iconst 1, 1) := by decide +kernel
theorem dLaw_law_120_1202 : decode code 1202 = .ok (.iadd, 1) := by decide +kernel
theorem dLaw_law_120_1203 : decode code 1203 = .ok (.iaload, 1) := by decide +kernel
theorem dLaw_law_120_1204 : decode code 1204 = .ok (.invokevirtual 155, 3) := by decide +kernel
theorem dLaw_law_120_1207 : decode code 1207 = .ok (.aload_n 2, 1) := by decide +kernel
theorem dLaw_law_120_1208 : decode code 1208 = .ok (.aload_n 0, 1) := by decide +kernel
theorem dLaw_law_120_1209 : decode code 1209 = .ok (.iload_n 3, 1) := by decide +kernel
theorem dLaw_law_120_1210 : decode code 1210 = .ok (.iconst 1, 1) := by decide +kernel
theorem dLaw_law_120_1211 : decode code 1211 = .ok (.iadd, 1) := by decide +kernel
theorem dLaw_law_120_1212 : decode code 1212 = .ok (.iaload, 1) := by decide +kernel
theorem dLaw_law_120_1213 : decode code 1213 = .ok (.invokevirtual 158, 3) := by decide +kernel
theorem dLaw_law_120_1216 : decode code 1216 = .ok (.if_icmp .eq 196, 3) := by decide +kernel
theorem dLaw_law_120_1221 : decode code 1221 = .ok (.aload_n 1, 1) := by decide +kernel
theorem dLaw_law_120_1222 : decode code 1222 = .ok (.aload_n 0, 1) := by decide +kernel
theorem dLaw_law_120_1223 : decode code 1223 = .ok (.iload_n 3, 1) := by decide +kernel
theorem dLaw_law_120_1224 : decode code 1224 = .ok (.iconst 1, 1) := by decide +kernel
theorem dLaw_law_120_1225 : decode code 1225 = .ok (.iadd, 1) := by decide +kernel
theorem dLaw_law_120_1226 : decode code 1226 = .ok (.iaload, 1) := by decide +kernel
theorem dLaw_law_120_1227 : decode code 1227 = .ok (.invokevirtual 159, 3) := by decide +kernel
theorem dLaw_law_120_1230 : decode code 1230 = .ok (.aload_n 2, 1) := by decide +kernel
theorem dLaw_law_120_1231 : decode code 1231 = .ok (.aload_n 0, 1) := by decide +kernel
theorem dLaw_law_120_1232 : decode code 1232 = .ok (.iload_n 3, 1) := by decide +kernel
theorem dLaw_law_120_1233 : decode code 1233 = .ok (.iconst 1, 1) := by decide +kernel
theorem dLaw_law_120_1234 : decode code 1234 = .ok (.iadd, 1) := by decide +kernel
theorem dLaw_law_120_1235 : decode code 1235 = .ok (.iaload, 1) := by decide +kernel
theorem dLaw_law_120_1236 : decode code 1236 = .ok (.invokevirtual 162, 3) := by decide +kernel
theorem dLaw_law_120_1239 : decode code 1239 = .ok (.if_icmp .eq 173, 3) := by decide +kernel
theorem dLaw_law_120_1244 : decode code 1244 = .ok (.aload_n 1, 1) := by decide +kernel
theorem dLaw_law_120_1245 : decode code 1245 = .ok (.aload_n 0, 1) := by decide +kernel
theorem dLaw_law_120_1246 : decode code 1246 = .ok (.iload_n 3, 1) := by decide +kernel
theorem dLaw_law_120_1247 : decode code 1247 = .ok (.iconst 1, 1) := by decide +kernel
theorem dLaw_law_120_1248 : decode code 1248 = .ok (.iadd, 1) := by decide +kernel
theorem dLaw_law_120_1249 : decode code 1249 = .ok (.iaload, 1) := by decide +kernel
theorem dLaw_law_120_1250 : decode code 1250 = .ok (.aload_n 0, 1) := by decide +kernel
theorem dLaw_law_120_1251 : decode code 1251 = .ok (.iload_n 3, 1) := by decide +kernel
theorem dLaw_law_120_1252 : decode code 1252 = .ok (.iconst 2, 1) := by decide +kernel
theorem dLaw_law_120_1253 : decode code 1253 = .ok (.iadd, 1) := by decide +kernel
theorem dLaw_law_120_1254 : decode code 1254 = .ok (.iaload, 1) := by decide +kernel
theorem dLaw_law_120_1255 : decode code 1255 = .ok (.invokevirtual 163, 3) := by decide +kernel
theorem dLaw_law_120_1258 : decode code 1258 = .ok (.aload_n 2, 1) := by decide +kernel
theorem dLaw_law_120_1259 : decode code 1259 = .ok (.aload_n 0, 1) := by decide +kernel
theorem dLaw_law_120_1260 : decode code 1260 = .ok (.iload_n 3, 1) := by decide +kernel
theorem dLaw_law_120_1261 : decode code 1261 = .ok (.iconst 1, 1) := by decide +kernel
theorem dLaw_law_120_1262 : decode code 1262 = .ok (.iadd, 1) := by decide +kernel
theorem dLaw_law_120_1263 : decode code 1263 = .ok (.iaload, 1) := by decide +kernel
theorem dLaw_law_120_1264 : decode code 1264 = .ok (.aload_n 0, 1) := by decide +kernel
theorem dLaw_law_120_1265 : decode code 1265 = .ok (.iload_n 3, 1) := by decide +kernel
theorem dLaw_law_120_1266 : decode code 1266 = .ok (.iconst 2, 1) := by decide +kernel
theorem dLaw_law_120_1267 : decode code 1267 = .ok (.iadd, 1) := by decide +kernel
theorem dLaw_law_120_1268 : decode code 1268 = .ok (.iaload, 1) := by decide +kernel
theorem dLaw_law_120_1269 : decode code 1269 = .ok (.invokevirtual 166, 3) := by decide +kernel
theorem dLaw_law_120_1272 : decode code 1272 = .ok (.if_icmp .eq 140, 3) := by decide +kernel
theorem dLaw_law_120_1277 : decode code 1277 = .ok (.aload_n 1, 1) := by decide +kernel
theorem dLaw_law_120_1278 : decode code 1278 = .ok (.aload_n 0, 1) := by decide +kernel
theorem dLaw_law_120_1279 : decode code 1279 = .ok (.iload_n 3, 1) := by decide +kernel
theorem dLaw_law_120_1280 : decode code 1280 = .ok (.iconst 1, 1) := by decide +kernel
theorem dLaw_law_120_1281 : decode code 1281 = .ok (.iadd, 1) := by decide +kernel
theorem dLaw_law_120_1282 : decode code 1282 = .ok (.iaload, 1) := by decide +kernel
theorem dLaw_law_120_1283 : decode code 1283 = .ok (.aload_n 0, 1) := by decide +kernel
theorem dLaw_law_120_1284 : decode code 1284 = .ok (.iload_n 3, 1) := by decide +kernel
theorem dLaw_law_120_1285 : decode code 1285 = .ok (.iconst 2, 1) := by decide +kernel
theorem dLaw_law_120_1286 : decode code 1286 = .ok (.iadd, 1) := by decide +kernel
theorem dLaw_law_120_1287 : decode code 1287 = .ok (.iaload, 1) := by decide +kernel
theorem dLaw_law_120_1288 : decode code 1288 = .ok (.invokevirtual 167, 3) := by decide +kernel
theorem dLaw_law_120_1291 : decode code 1291 = .ok (.aload_n 2, 1) := by decide +kernel
theorem dLaw_law_120_1292 : decode code 1292 = .ok (.aload_n 0, 1) := by decide +kernel
theorem dLaw_law_120_1293 : decode code 1293 = .ok (.iload_n 3, 1) := by decide +kernel
theorem dLaw_law_120_1294 : decode code 1294 = .ok (.iconst 1, 1) := by decide +kernel
theorem dLaw_law_120_1295 : decode code 1295 = .ok (.iadd, 1) := by decide +kernel
theorem dLaw_law_120_1296 : decode code 1296 = .ok (.iaload, 1) := by decide +kernel
theorem dLaw_law_120_1297 : decode code 1297 = .ok (.aload_n 0, 1) := by decide +kernel
theorem dLaw_law_120_1298 : decode code 1298 = .ok (.iload_n 3, 1) := by decide +kernel
theorem dLaw_law_120_1299 : decode code 1299 = .ok (.iconst 2, 1) := by decide +kernel
theorem dLaw_law_120_1300 : decode code 1300 = .ok (.iadd, 1) := by decide +kernel
theorem dLaw_law_120_1301 : decode code 1301 = .ok (.iaload, 1) := by decide +kernel
theorem dLaw_law_120_1302 : decode code 1302 = .ok (.invokevirtual 170, 3) := by decide +kernel
theorem dLaw_law_120_1305 : decode code 1305 = .ok (.if_icmp .eq 107, 3) := by decide +kernel
theorem dLaw_law_120_1310 : decode code 1310 = .ok (.aload_n 1, 1) := by decide +kernel
theorem dLaw_law_120_1311 : decode code 1311 = .ok (.invokevirtual 171, 3) := by decide +kernel
theorem dLaw_law_120_1314 : decode code 1314 = .ok (.aload_n 2, 1) := by decide +kernel
theorem dLaw_law_120_1315 : decode code 1315 = .ok (.invokevirtual 174, 3) := by decide +kernel
theorem dLaw_law_120_1318 : decode code 1318 = .ok (.if_icmp .eq 94, 3) := by decide +kernel
theorem dLaw_law_120_1323 : decode code 1323 = .ok (.aload_n 1, 1) := by decide +kernel
theorem dLaw_law_120_1324 : decode code 1324 = .ok (.aload_n 0, 1) := by decide +kernel
theorem dLaw_law_120_1325 : decode code 1325 = .ok (.iload_n 3, 1) := by decide +kernel
theorem dLaw_law_120_1326 : decode code 1326 = .ok (.iconst 1, 1) := by decide +kernel
theorem dLaw_law_120_1327 : decode code 1327 = .ok (.iadd, 1) := by decide +kernel
theorem dLaw_law_120_1328 : decode code 1328 = .ok (.iaload, 1) := by decide +kernel
theorem dLaw_law_120_1329 : decode code 1329 = .ok (.aload_n 0, 1) := by decide +kernel
theorem dLaw_law_120_1330 : decode code 1330 = .ok (.iload_n 3, 1) := by decide +kernel
theorem dLaw_law_120_1331 : decode code 1331 = .ok (.iconst 2, 1) := by decide +kernel
theorem dLaw_law_120_1332 : decode code 1332 = .ok (.iadd, 1) := by decide +kernel
theorem dLaw_law_120_1333 : decode code 1333 = .ok (.iaload, 1) := by decide +kernel
theorem dLaw_law_120_1334 : decode code 1334 = .ok (.invokevirtual 175, 3) := by decide +kernel
theorem dLaw_law_120_1337 : decode code 1337 = .ok (.aload_n 2, 1) := by decide +kernel
theorem dLaw_law_120_1338 : decode code 1338 = .ok (.aload_n 0, 1) := by decide +kernel
theorem dLaw_law_120_1339 : decode code 1339 = .ok (.iload_n 3, 1) := by decide +kernel
theorem dLaw_law_120_1340 : decode code 1340 = .ok (.iconst 1, 1) := by decide +kernel
theorem dLaw_law_120_1341 : decode code 1341 = .ok (.iadd, 1) := by decide +kernel
theorem dLaw_law_120_1342 : decode code 1342 = .ok (.iaload, 1) := by decide +kernel
theorem dLaw_law_120_1343 : decode code 1343 = .ok (.aload_n 0, 1) := by decide +kernel
theorem dLaw_law_120_1344 : decode code 1344 = .ok (.iload_n 3, 1) := by decide +kernel
theorem dLaw_law_120_1345 : decode code 1345 = .ok (.iconst 2, 1) := by decide +kernel
theorem dLaw_law_120_1346 : decode code 1346 = .ok (.iadd, 1) := by decide +kernel
theorem dLaw_law_120_1347 : decode code 1347 = .ok (.iaload, 1) := by decide +kernel
theorem dLaw_law_120_1348 : decode code 1348 = .ok (.invokevirtual 178, 3) := by decide +kernel
theorem dLaw_law_120_1351 : decode code 1351 = .ok (.if_icmp .eq 61, 3) := by decide +kernel
theorem dLaw_law_120_1356 : decode code 1356 = .ok (.aload_n 1, 1) := by decide +kernel
theorem dLaw_law_120_1357 : decode code 1357 = .ok (.aload_n 0, 1) := by decide +kernel
theorem dLaw_law_120_1358 : decode code 1358 = .ok (.iload_n 3, 1) := by decide +kernel
theorem dLaw_law_120_1359 : decode code 1359 = .ok (.iconst 1, 1) := by decide +kernel
theorem dLaw_law_120_1360 : decode code 1360 = .ok (.iadd, 1) := by decide +kernel
theorem dLaw_law_120_1361 : decode code 1361 = .ok (.iaload, 1) := by decide +kernel
theorem dLaw_law_120_1362 : decode code 1362 = .ok (.aload_n 0, 1) := by decide +kernel
theorem dLaw_law_120_1363 : decode code 1363 = .ok (.iload_n 3, 1) := by decide +kernel
theorem dLaw_law_120_1364 : decode code 1364 = .ok (.iconst 2, 1) := by decide +kernel
theorem dLaw_law_120_1365 : decode code 1365 = .ok (.iadd, 1) := by decide +kernel
theorem dLaw_law_120_1366 : decode code 1366 = .ok (.iaload, 1) := by decide +kernel
theorem dLaw_law_120_1367 : decode code 1367 = .ok (.invokevirtual 179, 3) := by decide +kernel
theorem dLaw_law_120_1370 : decode code 1370 = .ok (.aload_n 2, 1) := by decide +kernel
theorem dLaw_law_120_1371 : decode code 1371 = .ok (.aload_n 0, 1) := by decide +kernel
theorem dLaw_law_120_1372 : decode code 1372 = .ok (.iload_n 3, 1) := by decide +kernel
theorem dLaw_law_120_1373 : decode code 1373 = .ok (.iconst 1, 1) := by decide +kernel
theorem dLaw_law_120_1374 : decode code 1374 = .ok (.iadd, 1) := by decide +kernel
theorem dLaw_law_120_1375 : decode code 1375 = .ok (.iaload, 1) := by decide +kernel
theorem dLaw_law_120_1376 : decode code 1376 = .ok (.aload_n 0, 1) := by decide +kernel
theorem dLaw_law_120_1377 : decode code 1377 = .ok (.iload_n 3, 1) := by decide +kernel
theorem dLaw_law_120_1378 : decode code 1378 = .ok (.iconst 2, 1) := by decide +kernel
theorem dLaw_law_120_1379 : decode code 1379 = .ok (.iadd, 1) := by decide +kernel
theorem dLaw_law_120_1380 : decode code 1380 = .ok (.iaload, 1) := by decide +kernel
theorem dLaw_law_120_1381 : decode code 1381 = .ok (.invokevirtual 182, 3) := by decide +kernel
theorem dLaw_law_120_1384 : decode code 1384 = .ok (.if_icmp .eq 28, 3) := by decide +kernel
theorem dLaw_law_120_1389 : decode code 1389 = .ok (.aload_n 1, 1) := by decide +kernel
theorem dLaw_law_120_1390 : decode code 1390 = .ok (.aload_n 0, 1) := by decide +kernel
theorem dLaw_law_120_1391 : decode code 1391 = .ok (.iload_n 3, 1) := by decide +kernel
theorem dLaw_law_120_1392 : decode code 1392 = .ok (.iconst 1, 1) := by decide +kernel
theorem dLaw_law_120_1393 : decode code 1393 = .ok (.iadd, 1) := by decide +kernel
theorem dLaw_law_120_1394 : decode code 1394 = .ok (.iaload, 1) := by decide +kernel
theorem dLaw_law_120_1395 : decode code 1395 = .ok (.invokevirtual 183, 3) := by decide +kernel
theorem dLaw_law_120_1398 : decode code 1398 = .ok (.aload_n 2, 1) := by decide +kernel
theorem dLaw_law_120_1399 : decode code 1399 = .ok (.aload_n 0, 1) := by decide +kernel
theorem dLaw_law_120_1400 : decode code 1400 = .ok (.iload_n 3, 1) := by decide +kernel
theorem dLaw_law_120_1401 : decode code 1401 = .ok (.iconst 1, 1) := by decide +kernel
theorem dLaw_law_120_1402 : decode code 1402 = .ok (.iadd, 1) := by decide +kernel
theorem dLaw_law_120_1403 : decode code 1403 = .ok (.iaload, 1) := by decide +kernel
theorem dLaw_law_120_1404 : decode code 1404 = .ok (.invokevirtual 186, 3) := by decide +kernel
theorem dLaw_law_120_1407 : decode code 1407 = .ok (.if_icmp .eq 5, 3) := by decide +kernel
theorem dLaw_law_120_1412 : decode code 1412 = .ok (.iinc 3 6, 3) := by decide +kernel
theorem dLaw_law_120_1415 : decode code 1415 = .ok (.goto (-1397), 3) := by decide +kernel
theorem dLaw_law_120_1418 : decode code 1418 = .ok (.iconst 1, 1) := by decide +kernel
theorem dLaw_law_120_1419 : decode code 1419 = .ok (.ireturn, 1) := by decide +kernel
set_option maxRecDepth 100000 in
set_option maxHeartbeats 8000000 in
theorem tLaw_law_120_J1418 {X : KC} {q : Int × KM} {nS : Int} {xS : Int → Int} (hX : kOk X 2048 code 4 "KeyPathLaw") (hR : kRetL X nS xS q) (σ : KM) {Θ : (Int × KM) → Prop} (hT : ∀ z, Θ (z) → z = q) : kJ X 1418 [lq 120, lq 0, lq 10, none] [] σ (fLaw_law_120_J1418 nS xS σ) Θ := by
  refine k_iconst hX dLaw_law_120_1418 ?_
  exact k_lret hX hR hT dLaw_law_120_1419
set_option maxRecDepth 100000 in
set_option maxHeartbeats 8000000 in
theorem tLaw_law_120_J1412 {X : KC} {q : Int × KM} {nS : Int} {xS : Int → Int} (hX : kOk X 2048 code 4 "KeyPathLaw") (hR : kRetL X nS xS q) (x3 : Int) (σ : KM) {Θ : ((Int × KM) ⊕ (Int × KM)) → Prop} (hT : ∀ z, Θ (.inr (z)) → z = q) (hb0 : ∀ s : Int × KM, Θ (.inl s) → kW X 18 [lq 120, lq 0, lq 10, li s.1] [] s.2) : kJ X 1412 [lq 120, lq 0, lq 10, li x3] [] σ (fLaw_law_120_J1412 nS xS x3 σ) Θ := by
  refine k_iincL (Lf := fun y1 => [lq 120, lq 0, lq 10, li y1]) hX dLaw_law_120_1412 rfl (by decide) rfl (fun _ => rfl) (fun y1 => ?_)
  refine k_goto (tgt := 18) hX dLaw_law_120_1415 (by decide) ?_
  exact k_back (hb0 (y1, σ))
set_option maxRecDepth 100000 in
set_option maxHeartbeats 8000000 in
theorem tLaw_law_120_B18 {X : KC} {q : Int × KM} {nS : Int} {xS : Int → Int} (hX : kOk X 2048 code 4 "KeyPathLaw") (hR : kRetL X nS xS q) (x3 : Int) (σ : KM) {Θ : ((Int × KM) ⊕ (Int × KM)) → Prop} (hT : ∀ z, Θ (.inr (z)) → z = q) (hb0 : ∀ s : Int × KM, Θ (.inl s) → kW X 18 [lq 120, lq 0, lq 10, li s.1] [] s.2) : kJ X 18 [lq 120, lq 0, lq 10, li x3] [] σ (fLaw_law_120_B18 nS xS x3 σ) Θ := by
  refine k_iload_n hX dLaw_law_120_18 rfl ?_
  refine k_aload_n hX dLaw_law_120_19 rfl ?_
  refine k_slen hX hR.1 dLaw_law_120_20 ?_
  refine k_bipush hX dLaw_law_120_21 (by decide) ?_
  refine k_isub hX dLaw_law_120_23 ?_
  refine k_icmp_gt (tgt := 1418) hX dLaw_law_120_24 (by decide) ?_ ?_
  · refine k_exit ?_
    refine k_less [true, true, true, false] (L' := [lq 120, lq 0, lq 10, none]) rfl ?_
    exact tLaw_law_120_J1418 hX hR σ hT
  · refine k_aload_n hX dLaw_law_120_27 rfl ?_
    refine k_iload_n hX dLaw_law_120_28 rfl ?_
    refine k_sld hX hR.1 dLaw_law_120_29 (fun y1 => ?_)
    refine k_bipush hX dLaw_law_120_30 (by decide) ?_
    refine k_iand hX dLaw_law_120_32 (fun y2 => ?_)
    refine k_tsw (ts := [216, 279, 302, 325, 368, 391, 414, 427, 460, 493, 536, 589, 622, 655, 698, 731, 764, 787, 810, 843, 886, 899, 922, 935, 968, 1001, 1024, 1047, 1070, 1083, 1096, 1129, 1162, 1185, 1198, 1221, 1244, 1277, 1310, 1323, 1356, 1389]) (te := 1412) hX dLaw_law_120_33 (by decide) (by decide) rfl (by decide) (k_ts_c ?_ (k_ts_c ?_ (k_ts_c ?_ (k_ts_c ?_ (k_ts_c ?_ (k_ts_c ?_ (k_ts_c ?_ (k_ts_c ?_ (k_ts_c ?_ (k_ts_c ?_ (k_ts_c ?_ (k_ts_c ?_ (k_ts_c ?_ (k_ts_c ?_ (k_ts_c ?_ (k_ts_c ?_ (k_ts_c ?_ (k_ts_c ?_ (k_ts_c ?_ (k_ts_c ?_ (k_ts_c ?_ (k_ts_c ?_ (k_ts_c ?_ (k_ts_c ?_ (k_ts_c ?_ (k_ts_c ?_ (k_ts_c ?_ (k_ts_c ?_ (k_ts_c ?_ (k_ts_c ?_ (k_ts_c ?_ (k_ts_c ?_ (k_ts_c ?_ (k_ts_c ?_ (k_ts_c ?_ (k_ts_c ?_ (k_ts_c ?_ (k_ts_c ?_ (k_ts_c ?_ (k_ts_c ?_ (k_ts_c ?_ (k_ts_c ?_ (k_ts_n))))))))))))))))))))))))))))))))))))))))))) ?_
    · refine k_aload_n hX dLaw_law_120_216 rfl ?_
      refine k_aload_n hX dLaw_law_120_217 rfl ?_
      refine k_iload_n hX dLaw_law_120_218 rfl ?_
      refine k_iconst hX dLaw_law_120_219 ?_
      refine k_iadd hX dLaw_law_120_220 ?_
      refine k_sld hX hR.1 dLaw_law_120_221 (fun y3 => ?_)
      refine k_aload_n hX dLaw_law_120_222 rfl ?_
      refine k_iload_n hX dLaw_law_120_223 rfl ?_
      refine k_iconst hX dLaw_law_120_224 ?_
      refine k_iadd hX dLaw_law_120_225 ?_
      refine k_sld hX hR.1 dLaw_law_120_226 (fun y4 => ?_)
      refine k_aload_n hX dLaw_law_120_227 rfl ?_
      refine k_iload_n hX dLaw_law_120_228 rfl ?_
      refine k_iconst hX dLaw_law_120_229 ?_
      refine k_iadd hX dLaw_law_120_230 ?_
      refine k_sld hX hR.1 dLaw_law_120_231 (fun y5 => ?_)
      refine k_aload_n hX dLaw_law_120_232 rfl ?_
      refine k_iload_n hX dLaw_law_120_233 rfl ?_
      refine k_iconst hX dLaw_law_120_234 ?_
      refine k_iadd hX dLaw_law_120_235 ?_
      refine k_sld hX hR.1 dLaw_law_120_236 (fun y6 => ?_)
      refine k_aload_n hX dLaw_law_120_237 rfl ?_
      refine k_iload_n hX dLaw_law_120_238 rfl ?_
      refine k_iconst hX dLaw_law_120_239 ?_
      refine k_iadd hX dLaw_law_120_240 ?_
      refine k_sld hX hR.1 dLaw_law_120_241 (fun y7 => ?_)
      refine cl_164 hX (by decide) (Nat.le_of_ble_eq_true rfl) dLaw_law_120_242 (fun r9 τ8 => ?_)
      refine k_aload_n hX dLaw_law_120_245 rfl ?_
      refine k_aload_n hX dLaw_law_120_246 rfl ?_
      refine k_iload_n hX dLaw_law_120_247 rfl ?_
      refine k_iconst hX dLaw_law_120_248 ?_
      refine k_iadd hX dLaw_law_120_249 ?_
      refine k_sld hX hR.1 dLaw_law_120_250 (fun y10 => ?_)
      refine k_aload_n hX dLaw_law_120_251 rfl ?_
      refine k_iload_n hX dLaw_law_120_252 rfl ?_
      refine k_iconst hX dLaw_law_120_253 ?_
      refine k_iadd hX dLaw_law_120_254 ?_
      refine k_sld hX hR.1 dLaw_law_120_255 (fun y11 => ?_)
      refine k_aload_n hX dLaw_law_120_256 rfl ?_
      refine k_iload_n hX dLaw_law_120_257 rfl ?_
      refine k_iconst hX dLaw_law_120_258 ?_
      refine k_iadd hX dLaw_law_120_259 ?_
      refine k_sld hX hR.1 dLaw_law_120_260 (fun y12 => ?_)
      refine k_aload_n hX dLaw_law_120_261 rfl ?_
      refine k_iload_n hX dLaw_law_120_262 rfl ?_
      refine k_iconst hX dLaw_law_120_263 ?_
      refine k_iadd hX dLaw_law_120_264 ?_
      refine k_sld hX hR.1 dLaw_law_120_265 (fun y13 => ?_)
      refine k_aload_n hX dLaw_law_120_266 rfl ?_
      refine k_iload_n hX dLaw_law_120_267 rfl ?_
      refine k_iconst hX dLaw_law_120_268 ?_
      refine k_iadd hX dLaw_law_120_269 ?_
      refine k_sld hX hR.1 dLaw_law_120_270 (fun y14 => ?_)
      refine cl_165 hX (by decide) (Nat.le_of_ble_eq_true rfl) dLaw_law_120_271 (fun r16 τ15 => ?_)
      refine k_same (tgt := 1412) hX dLaw_law_120_274 (by decide) ?_
      exact tLaw_law_120_J1412 hX hR x3 τ15 hT hb0
    · refine k_aload_n hX dLaw_law_120_279 rfl ?_
      refine k_aload_n hX dLaw_law_120_280 rfl ?_
      refine k_iload_n hX dLaw_law_120_281 rfl ?_
      refine k_iconst hX dLaw_law_120_282 ?_
      refine k_iadd hX dLaw_law_120_283 ?_
      refine k_sld hX hR.1 dLaw_law_120_284 (fun y17 => ?_)
      refine cl_166 hX (by decide) (Nat.le_of_ble_eq_true rfl) dLaw_law_120_285 (fun r19 τ18 => ?_)
      refine k_aload_n hX dLaw_law_120_288 rfl ?_
      refine k_aload_n hX dLaw_law_120_289 rfl ?_
      refine k_iload_n hX dLaw_law_120_290 rfl ?_
      refine k_iconst hX dLaw_law_120_291 ?_
      refine k_iadd hX dLaw_law_120_292 ?_
      refine k_sld hX hR.1 dLaw_law_120_293 (fun y20 => ?_)
      refine cl_167 hX (by decide) (Nat.le_of_ble_eq_true rfl) dLaw_law_120_294 (fun r22 τ21 => ?_)
      refine k_same (tgt := 1412) hX dLaw_law_120_297 (by decide) ?_
      exact tLaw_law_120_J1412 hX hR x3 τ21 hT hb0
    · refine k_aload_n hX dLaw_law_120_302 rfl ?_
      refine k_aload_n hX dLaw_law_120_303 rfl ?_
      refine k_iload_n hX dLaw_law_120_304 rfl ?_
      refine k_iconst hX dLaw_law_120_305 ?_
      refine k_iadd hX dLaw_law_120_306 ?_
      refine k_sld hX hR.1 dLaw_law_120_307 (fun y23 => ?_)
      refine cl_168 hX (by decide) (Nat.le_of_ble_eq_true rfl) dLaw_law_120_308 (fun r25 τ24 => ?_)
      refine k_aload_n hX dLaw_law_120_311 rfl ?_
      refine k_aload_n hX dLaw_law_120_312 rfl ?_
      refine k_iload_n hX dLaw_law_120_313 rfl ?_
      refine k_iconst hX dLaw_law_120_314 ?_
      refine k_iadd hX dLaw_law_120_315 ?_
      refine k_sld hX hR.1 dLaw_law_120_316 (fun y26 => ?_)
      refine cl_169 hX (by decide) (Nat.le_of_ble_eq_true rfl) dLaw_law_120_317 (fun r28 τ27 => ?_)
      refine k_same (tgt := 1412) hX dLaw_law_120_320 (by decide) ?_
      exact tLaw_law_120_J1412 hX hR x3 τ27 hT hb0
    · refine k_aload_n hX dLaw_law_120_325 rfl ?_
      refine k_aload_n hX dLaw_law_120_326 rfl ?_
      refine k_iload_n hX dLaw_law_120_327 rfl ?_
      refine k_iconst hX dLaw_law_120_328 ?_
      refine k_iadd hX dLaw_law_120_329 ?_
      refine k_sld hX hR.1 dLaw_law_120_330 (fun y29 => ?_)
      refine k_aload_n hX dLaw_law_120_331 rfl ?_
      refine k_iload_n hX dLaw_law_120_332 rfl ?_
      refine k_iconst hX dLaw_law_120_333 ?_
      refine k_iadd hX dLaw_law_120_334 ?_
      refine k_sld hX hR.1 dLaw_law_120_335 (fun y30 => ?_)
      refine k_aload_n hX dLaw_law_120_336 rfl ?_
      refine k_iload_n hX dLaw_law_120_337 rfl ?_
      refine k_iconst hX dLaw_law_120_338 ?_
      refine k_iadd hX dLaw_law_120_339 ?_
      refine k_sld hX hR.1 dLaw_law_120_340 (fun y31 => ?_)
      refine cl_170 hX (by decide) (Nat.le_of_ble_eq_true rfl) dLaw_law_120_341 (fun r33 τ32 => ?_)
      refine k_aload_n hX dLaw_law_120_344 rfl ?_
      refine k_aload_n hX dLaw_law_120_345 rfl ?_
      refine k_iload_n hX dLaw_law_120_346 rfl ?_
      refine k_iconst hX dLaw_law_120_347 ?_
      refine k_iadd hX dLaw_law_120_348 ?_
      refine k_sld hX hR.1 dLaw_law_120_349 (fun y34 => ?_)
      refine k_aload_n hX dLaw_law_120_350 rfl ?_
      refine k_iload_n hX dLaw_law_120_351 rfl ?_
      refine k_iconst hX dLaw_law_120_352 ?_
      refine k_iadd hX dLaw_law_120_353 ?_
      refine k_sld hX hR.1 dLaw_law_120_354 (fun y35 => ?_)
      refine k_aload_n hX dLaw_law_120_355 rfl ?_
      refine k_iload_n hX dLaw_law_120_356 rfl ?_
      refine k_iconst hX dLaw_law_120_357 ?_
      refine k_iadd hX dLaw_law_120_358 ?_
      refine k_sld hX hR.1 dLaw_law_120_359 (fun y36 => ?_)
      refine cl_171 hX (by decide) (Nat.le_of_ble_eq_true rfl) dLaw_law_120_360 (fun r38 τ37 => ?_)
      refine k_same (tgt := 1412) hX dLaw_law_120_363 (by decide) ?_
      exact tLaw_law_120_J1412 hX hR x3 τ37 hT hb0
    · refine k_aload_n hX dLaw_law_120_368 rfl ?_
      refine k_aload_n hX dLaw_law_120_369 rfl ?_
      refine k_iload_n hX dLaw_law_120_370 rfl ?_
      refine k_iconst hX dLaw_law_120_371 ?_
      refine k_iadd hX dLaw_law_120_372 ?_
      refine k_sld hX hR.1 dLaw_law_120_373 (fun y39 => ?_)
      refine cl_172 hX (by decide) (Nat.le_of_ble_eq_true rfl) dLaw_law_120_374 (fun r41 τ40 => ?_)
      refine k_aload_n hX dLaw_law_120_377 rfl ?_
      refine k_aload_n hX dLaw_law_120_378 rfl ?_
      refine k_iload_n hX dLaw_law_120_379 rfl ?_
      refine k_iconst hX dLaw_law_120_380 ?_
      refine k_iadd hX dLaw_law_120_381 ?_
      refine k_sld hX hR.1 dLaw_law_120_382 (fun y42 => ?_)
      refine cl_173 hX (by decide) (Nat.le_of_ble_eq_true rfl) dLaw_law_120_383 (fun r44 τ43 => ?_)
      refine k_same (tgt := 1412) hX dLaw_law_120_386 (by decide) ?_
      exact tLaw_law_120_J1412 hX hR x3 τ43 hT hb0
    · refine k_aload_n hX dLaw_law_120_391 rfl ?_
      refine k_aload_n hX dLaw_law_120_392 rfl ?_
      refine k_iload_n hX dLaw_law_120_393 rfl ?_
      refine k_iconst hX dLaw_law_120_394 ?_
      refine k_iadd hX dLaw_law_120_395 ?_
      refine k_sld hX hR.1 dLaw_law_120_396 (fun y45 => ?_)
      refine cl_174 hX (by decide) (Nat.le_of_ble_eq_true rfl) dLaw_law_120_397 (fun r47 τ46 => ?_)
      refine k_aload_n hX dLaw_law_120_400 rfl ?_
      refine k_aload_n hX dLaw_law_120_401 rfl ?_
      refine k_iload_n hX dLaw_law_120_402 rfl ?_
      refine k_iconst hX dLaw_law_120_403 ?_
      refine k_iadd hX dLaw_law_120_404 ?_
      refine k_sld hX hR.1 dLaw_law_120_405 (fun y48 => ?_)
      refine cl_175 hX (by decide) (Nat.le_of_ble_eq_true rfl) dLaw_law_120_406 (fun r50 τ49 => ?_)
      refine k_same (tgt := 1412) hX dLaw_law_120_409 (by decide) ?_
      exact tLaw_law_120_J1412 hX hR x3 τ49 hT hb0
    · refine k_aload_n hX dLaw_law_120_414 rfl ?_
      refine cl_176 hX (by decide) (Nat.le_of_ble_eq_true rfl) dLaw_law_120_415 (fun r52 τ51 => ?_)
      refine k_aload_n hX dLaw_law_120_418 rfl ?_
      refine cl_177 hX (by decide) (Nat.le_of_ble_eq_true rfl) dLaw_law_120_419 (fun r54 τ53 => ?_)
      refine k_same (tgt := 1412) hX dLaw_law_120_422 (by decide) ?_
      exact tLaw_law_120_J1412 hX hR x3 τ53 hT hb0
    · refine k_aload_n hX dLaw_law_120_427 rfl ?_
      refine k_aload_n hX dLaw_law_120_428 rfl ?_
      refine k_iload_n hX dLaw_law_120_429 rfl ?_
      refine k_iconst hX dLaw_law_120_430 ?_
      refine k_iadd hX dLaw_law_120_431 ?_
      refine k_sld hX hR.1 dLaw_law_120_432 (fun y55 => ?_)
      refine k_aload_n hX dLaw_law_120_433 rfl ?_
      refine k_iload_n hX dLaw_law_120_434 rfl ?_
      refine k_iconst hX dLaw_law_120_435 ?_
      refine k_iadd hX dLaw_law_120_436 ?_
      refine k_sld hX hR.1 dLaw_law_120_437 (fun y56 => ?_)
      refine cl_178 hX (by decide) (Nat.le_of_ble_eq_true rfl) dLaw_law_120_438 (fun r58 τ57 => ?_)
      refine k_aload_n hX dLaw_law_120_441 rfl ?_
      refine k_aload_n hX dLaw_law_120_442 rfl ?_
      refine k_iload_n hX dLaw_law_120_443 rfl ?_
      refine k_iconst hX dLaw_law_120_444 ?_
      refine k_iadd hX dLaw_law_120_445 ?_
      refine k_sld hX hR.1 dLaw_law_120_446 (fun y59 => ?_)
      refine k_aload_n hX dLaw_law_120_447 rfl ?_
      refine k_iload_n hX dLaw_law_120_448 rfl ?_
      refine k_iconst hX dLaw_law_120_449 ?_
      refine k_iadd hX dLaw_law_120_450 ?_
      refine k_sld hX hR.1 dLaw_law_120_451 (fun y60 => ?_)
      refine cl_179 hX (by decide) (Nat.le_of_ble_eq_true rfl) dLaw_law_120_452 (fun r62 τ61 => ?_)
      refine k_same (tgt := 1412) hX dLaw_law_120_455 (by decide) ?_
      exact tLaw_law_120_J1412 hX hR x3 τ61 hT hb0
    · refine k_aload_n hX dLaw_law_120_460 rfl ?_
      refine k_aload_n hX dLaw_law_120_461 rfl ?_
      refine k_iload_n hX dLaw_law_120_462 rfl ?_
      refine k_iconst hX dLaw_law_120_463 ?_
      refine k_iadd hX dLaw_law_120_464 ?_
      refine k_sld hX hR.1 dLaw_law_120_465 (fun y63 => ?_)
      refine k_aload_n hX dLaw_law_120_466 rfl ?_
      refine k_iload_n hX dLaw_law_120_467 rfl ?_
      refine k_iconst hX dLaw_law_120_468 ?_
      refine k_iadd hX dLaw_law_120_469 ?_
      refine k_sld hX hR.1 dLaw_law_120_470 (fun y64 => ?_)
      refine cl_180 hX (by decide) (Nat.le_of_ble_eq_true rfl) dLaw_law_120_471 (fun r66 τ65 => ?_)
      refine k_aload_n hX dLaw_law_120_474 rfl ?_
      refine k_aload_n hX dLaw_law_120_475 rfl ?_
      refine k_iload_n hX dLaw_law_120_476 rfl ?_
      refine k_iconst hX dLaw_law_120_477 ?_
      refine k_iadd hX dLaw_law_120_478 ?_
      refine k_sld hX hR.1 dLaw_law_120_479 (fun y67 => ?_)
      refine k_aload_n hX dLaw_law_120_480 rfl ?_
      refine k_iload_n hX dLaw_law_120_481 rfl ?_
      refine k_iconst hX dLaw_law_120_482 ?_
      refine k_iadd hX dLaw_law_120_483 ?_
      refine k_sld hX hR.1 dLaw_law_120_484 (fun y68 => ?_)
      refine cl_181 hX (by decide) (Nat.le_of_ble_eq_true rfl) dLaw_law_120_485 (fun r70 τ69 => ?_)
      refine k_same (tgt := 1412) hX dLaw_law_120_488 (by decide) ?_
      exact tLaw_law_120_J1412 hX hR x3 τ69 hT hb0
    · refine k_aload_n hX dLaw_law_120_493 rfl ?_
      refine k_aload_n hX dLaw_law_120_494 rfl ?_
      refine k_iload_n hX dLaw_law_120_495 rfl ?_
      refine k_iconst hX dLaw_law_120_496 ?_
      refine k_iadd hX dLaw_law_120_497 ?_
      refine k_sld hX hR.1 dLaw_law_120_498 (fun y71 => ?_)
      refine k_aload_n hX dLaw_law_120_499 rfl ?_
      refine k_iload_n hX dLaw_law_120_500 rfl ?_
      refine k_iconst hX dLaw_law_120_501 ?_
      refine k_iadd hX dLaw_law_120_502 ?_
      refine k_sld hX hR.1 dLaw_law_120_503 (fun y72 => ?_)
      refine k_aload_n hX dLaw_law_120_504 rfl ?_
      refine k_iload_n hX dLaw_law_120_505 rfl ?_
      refine k_iconst hX dLaw_law_120_506 ?_
      refine k_iadd hX dLaw_law_120_507 ?_
      refine k_sld hX hR.1 dLaw_law_120_508 (fun y73 => ?_)
      refine cl_182 hX (by decide) (Nat.le_of_ble_eq_true rfl) dLaw_law_120_509 (fun r75 τ74 => ?_)
      refine k_aload_n hX dLaw_law_120_512 rfl ?_
      refine k_aload_n hX dLaw_law_120_513 rfl ?_
      refine k_iload_n hX dLaw_law_120_514 rfl ?_
      refine k_iconst hX dLaw_law_120_515 ?_
      refine k_iadd hX dLaw_law_120_516 ?_
      refine k_sld hX hR.1 dLaw_law_120_517 (fun y76 => ?_)
      refine k_aload_n hX dLaw_law_120_518 rfl ?_
      refine k_iload_n hX dLaw_law_120_519 rfl ?_
      refine k_iconst hX dLaw_law_120_520 ?_
      refine k_iadd hX dLaw_law_120_521 ?_
      refine k_sld hX hR.1 dLaw_law_120_522 (fun y77 => ?_)
      refine k_aload_n hX dLaw_law_120_523 rfl ?_
      refine k_iload_n hX dLaw_law_120_524 rfl ?_
      refine k_iconst hX dLaw_law_120_525 ?_
      refine k_iadd hX dLaw_law_120_526 ?_
      refine k_sld hX hR.1 dLaw_law_120_527 (fun y78 => ?_)
      refine cl_183 hX (by decide) (Nat.le_of_ble_eq_true rfl) dLaw_law_120_528 (fun r80 τ79 => ?_)
      refine k_same (tgt := 1412) hX dLaw_law_120_531 (by decide) ?_
      exact tLaw_law_120_J1412 hX hR x3 τ79 hT hb0
    · refine k_aload_n hX dLaw_law_120_536 rfl ?_
      refine k_aload_n hX dLaw_law_120_537 rfl ?_
      refine k_iload_n hX dLaw_law_120_538 rfl ?_
      refine k_iconst hX dLaw_law_120_539 ?_
      refine k_iadd hX dLaw_law_120_540 ?_
      refine k_sld hX hR.1 dLaw_law_120_541 (fun y81 => ?_)
      refine k_aload_n hX dLaw_law_120_542 rfl ?_
      refine k_iload_n hX dLaw_law_120_543 rfl ?_
      refine k_iconst hX dLaw_law_120_544 ?_
      refine k_iadd hX dLaw_law_120_545 ?_
      refine k_sld hX hR.1 dLaw_law_120_546 (fun y82 => ?_)
      refine k_aload_n hX dLaw_law_120_547 rfl ?_
      refine k_iload_n hX dLaw_law_120_548 rfl ?_
      refine k_iconst hX dLaw_law_120_549 ?_
      refine k_iadd hX dLaw_law_120_550 ?_
      refine k_sld hX hR.1 dLaw_law_120_551 (fun y83 => ?_)
      refine k_aload_n hX dLaw_law_120_552 rfl ?_
      refine k_iload_n hX dLaw_law_120_553 rfl ?_
      refine k_iconst hX dLaw_law_120_554 ?_
      refine k_iadd hX dLaw_law_120_555 ?_
      refine k_sld hX hR.1 dLaw_law_120_556 (fun y84 => ?_)
      refine cl_184 hX (by decide) (Nat.le_of_ble_eq_true rfl) dLaw_law_120_557 (fun r86 τ85 => ?_)
      refine k_aload_n hX dLaw_law_120_560 rfl ?_
      refine k_aload_n hX dLaw_law_120_561 rfl ?_
      refine k_iload_n hX dLaw_law_120_562 rfl ?_
      refine k_iconst hX dLaw_law_120_563 ?_
      refine k_iadd hX dLaw_law_120_564 ?_
      refine k_sld hX hR.1 dLaw_law_120_565 (fun y87 => ?_)
      refine k_aload_n hX dLaw_law_120_566 rfl ?_
      refine k_iload_n hX dLaw_law_120_567 rfl ?_
      refine k_iconst hX dLaw_law_120_568 ?_
      refine k_iadd hX dLaw_law_120_569 ?_
      refine k_sld hX hR.1 dLaw_law_120_570 (fun y88 => ?_)
      refine k_aload_n hX dLaw_law_120_571 rfl ?_
      refine k_iload_n hX dLaw_law_120_572 rfl ?_
      refine k_iconst hX dLaw_law_120_573 ?_
      refine k_iadd hX dLaw_law_120_574 ?_
      refine k_sld hX hR.1 dLaw_law_120_575 (fun y89 => ?_)
      refine k_aload_n hX dLaw_law_120_576 rfl ?_
      refine k_iload_n hX dLaw_law_120_577 rfl ?_
      refine k_iconst hX dLaw_law_120_578 ?_
      refine k_iadd hX dLaw_law_120_579 ?_
      refine k_sld hX hR.1 dLaw_law_120_580 (fun y90 => ?_)
      refine cl_185 hX (by decide) (Nat.le_of_ble_eq_true rfl) dLaw_law_120_581 (fun r92 τ91 => ?_)
      refine k_same (tgt := 1412) hX dLaw_law_120_584 (by decide) ?_
      exact tLaw_law_120_J1412 hX hR x3 τ91 hT hb0
    · refine k_aload_n hX dLaw_law_120_589 rfl ?_
      refine k_aload_n hX dLaw_law_120_590 rfl ?_
      refine k_iload_n hX dLaw_law_120_591 rfl ?_
      refine k_iconst hX dLaw_law_120_592 ?_
      refine k_iadd hX dLaw_law_120_593 ?_
      refine k_sld hX hR.1 dLaw_law_120_594 (fun y93 => ?_)
      refine k_aload_n hX dLaw_law_120_595 rfl ?_
      refine k_iload_n hX dLaw_law_120_596 rfl ?_
      refine k_iconst hX dLaw_law_120_597 ?_
      refine k_iadd hX dLaw_law_120_598 ?_
      refine k_sld hX hR.1 dLaw_law_120_599 (fun y94 => ?_)
      refine cl_186 hX (by decide) (Nat.le_of_ble_eq_true rfl) dLaw_law_120_600 (fun r96 τ95 => ?_)
      refine k_aload_n hX dLaw_law_120_603 rfl ?_
      refine k_aload_n hX dLaw_law_120_604 rfl ?_
      refine k_iload_n hX dLaw_law_120_605 rfl ?_
      refine k_iconst hX dLaw_law_120_606 ?_
      refine k_iadd hX dLaw_law_120_607 ?_
      refine k_sld hX hR.1 dLaw_law_120_608 (fun y97 => ?_)
      refine k_aload_n hX dLaw_law_120_609 rfl ?_
      refine k_iload_n hX dLaw_law_120_610 rfl ?_
      refine k_iconst hX dLaw_law_120_611 ?_
      refine k_iadd hX dLaw_law_120_612 ?_
      refine k_sld hX hR.1 dLaw_law_120_613 (fun y98 => ?_)
      refine cl_187 hX (by decide) (Nat.le_of_ble_eq_true rfl) dLaw_law_120_614 (fun r100 τ99 => ?_)
      refine k_same (tgt := 1412) hX dLaw_law_120_617 (by decide) ?_
      exact tLaw_law_120_J1412 hX hR x3 τ99 hT hb0
    · refine k_aload_n hX dLaw_law_120_622 rfl ?_
      refine k_aload_n hX dLaw_law_120_623 rfl ?_
      refine k_iload_n hX dLaw_law_120_624 rfl ?_
      refine k_iconst hX dLaw_law_120_625 ?_
      refine k_iadd hX dLaw_law_120_626 ?_
      refine k_sld hX hR.1 dLaw_law_120_627 (fun y101 => ?_)
      refine k_aload_n hX dLaw_law_120_628 rfl ?_
      refine k_iload_n hX dLaw_law_120_629 rfl ?_
      refine k_iconst hX dLaw_law_120_630 ?_
      refine k_iadd hX dLaw_law_120_631 ?_
      refine k_sld hX hR.1 dLaw_law_120_632 (fun y102 => ?_)
      refine cl_188 hX (by decide) (Nat.le_of_ble_eq_true rfl) dLaw_law_120_633 (fun r104 τ103 => ?_)
      refine k_aload_n hX dLaw_law_120_636 rfl ?_
      refine k_aload_n hX dLaw_law_120_637 rfl ?_
      refine k_iload_n hX dLaw_law_120_638 rfl ?_
      refine k_iconst hX dLaw_law_120_639 ?_
      refine k_iadd hX dLaw_law_120_640 ?_
      refine k_sld hX hR.1 dLaw_law_120_641 (fun y105 => ?_)
      refine k_aload_n hX dLaw_law_120_642 rfl ?_
      refine k_iload_n hX dLaw_law_120_643 rfl ?_
      refine k_iconst hX dLaw_law_120_644 ?_
      refine k_iadd hX dLaw_law_120_645 ?_
      refine k_sld hX hR.1 dLaw_law_120_646 (fun y106 => ?_)
      refine cl_189 hX (by decide) (Nat.le_of_ble_eq_true rfl) dLaw_law_120_647 (fun r108 τ107 => ?_)
      refine k_same (tgt := 1412) hX dLaw_law_120_650 (by decide) ?_
      exact tLaw_law_120_J1412 hX hR x3 τ107 hT hb0
    · refine k_aload_n hX dLaw_law_120_655 rfl ?_
      refine k_aload_n hX dLaw_law_120_656 rfl ?_
      refine k_iload_n hX dLaw_law_120_657 rfl ?_
      refine k_iconst hX dLaw_law_120_658 ?_
      refine k_iadd hX dLaw_law_120_659 ?_
      refine k_sld hX hR.1 dLaw_law_120_660 (fun y109 => ?_)
      refine k_aload_n hX dLaw_law_120_661 rfl ?_
      refine k_iload_n hX dLaw_law_120_662 rfl ?_
      refine k_iconst hX dLaw_law_120_663 ?_
      refine k_iadd hX dLaw_law_120_664 ?_
      refine k_sld hX hR.1 dLaw_law_120_665 (fun y110 => ?_)
      refine k_aload_n hX dLaw_law_120_666 rfl ?_
      refine k_iload_n hX dLaw_law_120_667 rfl ?_
      refine k_iconst hX dLaw_law_120_668 ?_
      refine k_iadd hX dLaw_law_120_669 ?_
      refine k_sld hX hR.1 dLaw_law_120_670 (fun y111 => ?_)
      refine cl_190 hX (by decide) (Nat.le_of_ble_eq_true rfl) dLaw_law_120_671 (fun r113 τ112 => ?_)
      refine k_aload_n hX dLaw_law_120_674 rfl ?_
      refine k_aload_n hX dLaw_law_120_675 rfl ?_
      refine k_iload_n hX dLaw_law_120_676 rfl ?_
      refine k_iconst hX dLaw_law_120_677 ?_
      refine k_iadd hX dLaw_law_120_678 ?_
      refine k_sld hX hR.1 dLaw_law_120_679 (fun y114 => ?_)
      refine k_aload_n hX dLaw_law_120_680 rfl ?_
      refine k_iload_n hX dLaw_law_120_681 rfl ?_
      refine k_iconst hX dLaw_law_120_682 ?_
      refine k_iadd hX dLaw_law_120_683 ?_
      refine k_sld hX hR.1 dLaw_law_120_684 (fun y115 => ?_)
      refine k_aload_n hX dLaw_law_120_685 rfl ?_
      refine k_iload_n hX dLaw_law_120_686 rfl ?_
      refine k_iconst hX dLaw_law_120_687 ?_
      refine k_iadd hX dLaw_law_120_688 ?_
      refine k_sld hX hR.1 dLaw_law_120_689 (fun y116 => ?_)
      refine cl_191 hX (by decide) (Nat.le_of_ble_eq_true rfl) dLaw_law_120_690 (fun r118 τ117 => ?_)
      refine k_same (tgt := 1412) hX dLaw_law_120_693 (by decide) ?_
      exact tLaw_law_120_J1412 hX hR x3 τ117 hT hb0
    · refine k_aload_n hX dLaw_law_120_698 rfl ?_
      refine k_aload_n hX dLaw_law_120_699 rfl ?_
      refine k_iload_n hX dLaw_law_120_700 rfl ?_
      refine k_iconst hX dLaw_law_120_701 ?_
      refine k_iadd hX dLaw_law_120_702 ?_
      refine k_sld hX hR.1 dLaw_law_120_703 (fun y119 => ?_)
      refine k_aload_n hX dLaw_law_120_704 rfl ?_
      refine k_iload_n hX dLaw_law_120_705 rfl ?_
      refine k_iconst hX dLaw_law_120_706 ?_
      refine k_iadd hX dLaw_law_120_707 ?_
      refine k_sld hX hR.1 dLaw_law_120_708 (fun y120 => ?_)
      refine cl_192 hX (by decide) (Nat.le_of_ble_eq_true rfl) dLaw_law_120_709 (fun r122 τ121 => ?_)
      refine k_aload_n hX dLaw_law_120_712 rfl ?_
      refine k_aload_n hX dLaw_law_120_713 rfl ?_
      refine k_iload_n hX dLaw_law_120_714 rfl ?_
      refine k_iconst hX dLaw_law_120_715 ?_
      refine k_iadd hX dLaw_law_120_716 ?_
      refine k_sld hX hR.1 dLaw_law_120_717 (fun y123 => ?_)
      refine k_aload_n hX dLaw_law_120_718 rfl ?_
      refine k_iload_n hX dLaw_law_120_719 rfl ?_
      refine k_iconst hX dLaw_law_120_720 ?_
      refine k_iadd hX dLaw_law_120_721 ?_
      refine k_sld hX hR.1 dLaw_law_120_722 (fun y124 => ?_)
      refine cl_193 hX (by decide) (Nat.le_of_ble_eq_true rfl) dLaw_law_120_723 (fun r126 τ125 => ?_)
      refine k_same (tgt := 1412) hX dLaw_law_120_726 (by decide) ?_
      exact tLaw_law_120_J1412 hX hR x3 τ125 hT hb0
    · refine k_aload_n hX dLaw_law_120_731 rfl ?_
      refine k_aload_n hX dLaw_law_120_732 rfl ?_
      refine k_iload_n hX dLaw_law_120_733 rfl ?_
      refine k_iconst hX dLaw_law_120_734 ?_
      refine k_iadd hX dLaw_law_120_735 ?_
      refine k_sld hX hR.1 dLaw_law_120_736 (fun y127 => ?_)
      refine k_aload_n hX dLaw_law_120_737 rfl ?_
      refine k_iload_n hX dLaw_law_120_738 rfl ?_
      refine k_iconst hX dLaw_law_120_739 ?_
      refine k_iadd hX dLaw_law_120_740 ?_
      refine k_sld hX hR.1 dLaw_law_120_741 (fun y128 => ?_)
      refine cl_194 hX (by decide) (Nat.le_of_ble_eq_true rfl) dLaw_law_120_742 (fun r130 τ129 => ?_)
      refine k_aload_n hX dLaw_law_120_745 rfl ?_
      refine k_aload_n hX dLaw_law_120_746 rfl ?_
      refine k_iload_n hX dLaw_law_120_747 rfl ?_
      refine k_iconst hX dLaw_law_120_748 ?_
      refine k_iadd hX dLaw_law_120_749 ?_
      refine k_sld hX hR.1 dLaw_law_120_750 (fun y131 => ?_)
      refine k_aload_n hX dLaw_law_120_751 rfl ?_
      refine k_iload_n hX dLaw_law_120_752 rfl ?_
      refine k_iconst hX dLaw_law_120_753 ?_
      refine k_iadd hX dLaw_law_120_754 ?_
      refine k_sld hX hR.1 dLaw_law_120_755 (fun y132 => ?_)
      refine cl_195 hX (by decide) (Nat.le_of_ble_eq_true rfl) dLaw_law_120_756 (fun r134 τ133 => ?_)
      refine k_same (tgt := 1412) hX dLaw_law_120_759 (by decide) ?_
      exact tLaw_law_120_J1412 hX hR x3 τ133 hT hb0
    · refine k_aload_n hX dLaw_law_120_764 rfl ?_
      refine k_aload_n hX dLaw_law_120_765 rfl ?_
      refine k_iload_n hX dLaw_law_120_766 rfl ?_
      refine k_iconst hX dLaw_law_120_767 ?_
      refine k_iadd hX dLaw_law_120_768 ?_
      refine k_sld hX hR.1 dLaw_law_120_769 (fun y135 => ?_)
      refine cl_196 hX (by decide) (Nat.le_of_ble_eq_true rfl) dLaw_law_120_770 (fun r137 τ136 => ?_)
      refine k_aload_n hX dLaw_law_120_773 rfl ?_
      refine k_aload_n hX dLaw_law_120_774 rfl ?_
      refine k_iload_n hX dLaw_law_120_775 rfl ?_
      refine k_iconst hX dLaw_law_120_776 ?_
      refine k_iadd hX dLaw_law_120_777 ?_
      refine k_sld hX hR.1 dLaw_law_120_778 (fun y138 => ?_)
      refine cl_197 hX (by decide) (Nat.le_of_ble_eq_true rfl) dLaw_law_120_779 (fun r140 τ139 => ?_)
      refine k_same (tgt := 1412) hX dLaw_law_120_782 (by decide) ?_
      exact tLaw_law_120_J1412 hX hR x3 τ139 hT hb0
    · refine k_aload_n hX dLaw_law_120_787 rfl ?_
      refine k_aload_n hX dLaw_law_120_788 rfl ?_
      refine k_iload_n hX dLaw_law_120_789 rfl ?_
      refine k_iconst hX dLaw_law_120_790 ?_
      refine k_iadd hX dLaw_law_120_791 ?_
      refine k_sld hX hR.1 dLaw_law_120_792 (fun y141 => ?_)
      refine cl_198 hX (by decide) (Nat.le_of_ble_eq_true rfl) dLaw_law_120_793 (fun r143 τ142 => ?_)
      refine k_aload_n hX dLaw_law_120_796 rfl ?_
      refine k_aload_n hX dLaw_law_120_797 rfl ?_
      refine k_iload_n hX dLaw_law_120_798 rfl ?_
      refine k_iconst hX dLaw_law_120_799 ?_
      refine k_iadd hX dLaw_law_120_800 ?_
      refine k_sld hX hR.1 dLaw_law_120_801 (fun y144 => ?_)
      refine cl_199 hX (by decide) (Nat.le_of_ble_eq_true rfl) dLaw_law_120_802 (fun r146 τ145 => ?_)
      refine k_same (tgt := 1412) hX dLaw_law_120_805 (by decide) ?_
      exact tLaw_law_120_J1412 hX hR x3 τ145 hT hb0
    · refine k_aload_n hX dLaw_law_120_810 rfl ?_
      refine k_aload_n hX dLaw_law_120_811 rfl ?_
      refine k_iload_n hX dLaw_law_120_812 rfl ?_
      refine k_iconst hX dLaw_law_120_813 ?_
      refine k_iadd hX dLaw_law_120_814 ?_
      refine k_sld hX hR.1 dLaw_law_120_815 (fun y147 => ?_)
      refine k_aload_n hX dLaw_law_120_816 rfl ?_
      refine k_iload_n hX dLaw_law_120_817 rfl ?_
      refine k_iconst hX dLaw_law_120_818 ?_
      refine k_iadd hX dLaw_law_120_819 ?_
      refine k_sld hX hR.1 dLaw_law_120_820 (fun y148 => ?_)
      refine cl_200 hX (by decide) (Nat.le_of_ble_eq_true rfl) dLaw_law_120_821 (fun r150 τ149 => ?_)
      refine k_aload_n hX dLaw_law_120_824 rfl ?_
      refine k_aload_n hX dLaw_law_120_825 rfl ?_
      refine k_iload_n hX dLaw_law_120_826 rfl ?_
      refine k_iconst hX dLaw_law_120_827 ?_
      refine k_iadd hX dLaw_law_120_828 ?_
      refine k_sld hX hR.1 dLaw_law_120_829 (fun y151 => ?_)
      refine k_aload_n hX dLaw_law_120_830 rfl ?_
      refine k_iload_n hX dLaw_law_120_831 rfl ?_
      refine k_iconst hX dLaw_law_120_832 ?_
      refine k_iadd hX dLaw_law_120_833 ?_
      refine k_sld hX hR.1 dLaw_law_120_834 (fun y152 => ?_)
      refine cl_201 hX (by decide) (Nat.le_of_ble_eq_true rfl) dLaw_law_120_835 (fun r154 τ153 => ?_)
      refine k_same (tgt := 1412) hX dLaw_law_120_838 (by decide) ?_
      exact tLaw_law_120_J1412 hX hR x3 τ153 hT hb0
    · refine k_aload_n hX dLaw_law_120_843 rfl ?_
      refine k_aload_n hX dLaw_law_120_844 rfl ?_
      refine k_iload_n hX dLaw_law_120_845 rfl ?_
      refine k_iconst hX dLaw_law_120_846 ?_
      refine k_iadd hX dLaw_law_120_847 ?_
      refine k_sld hX hR.1 dLaw_law_120_848 (fun y155 => ?_)
      refine k_aload_n hX dLaw_law_120_849 rfl ?_
      refine k_iload_n hX dLaw_law_120_850 rfl ?_
      refine k_iconst hX dLaw_law_120_851 ?_
      refine k_iadd hX dLaw_law_120_852 ?_
      refine k_sld hX hR.1 dLaw_law_120_853 (fun y156 => ?_)
      refine k_aload_n hX dLaw_law_120_854 rfl ?_
      refine k_iload_n hX dLaw_law_120_855 rfl ?_
      refine k_iconst hX dLaw_law_120_856 ?_
      refine k_iadd hX dLaw_law_120_857 ?_
      refine k_sld hX hR.1 dLaw_law_120_858 (fun y157 => ?_)
      refine cl_202 hX (by decide) (Nat.le_of_ble_eq_true rfl) dLaw_law_120_859 (fun r159 τ158 => ?_)
      refine k_aload_n hX dLaw_law_120_862 rfl ?_
      refine k_aload_n hX dLaw_law_120_863 rfl ?_
      refine k_iload_n hX dLaw_law_120_864 rfl ?_
      refine k_iconst hX dLaw_law_120_865 ?_
      refine k_iadd hX dLaw_law_120_866 ?_
      refine k_sld hX hR.1 dLaw_law_120_867 (fun y160 => ?_)
      refine k_aload_n hX dLaw_law_120_868 rfl ?_
      refine k_iload_n hX dLaw_law_120_869 rfl ?_
      refine k_iconst hX dLaw_law_120_870 ?_
      refine k_iadd hX dLaw_law_120_871 ?_
      refine k_sld hX hR.1 dLaw_law_120_872 (fun y161 => ?_)
      refine k_aload_n hX dLaw_law_120_873 rfl ?_
      refine k_iload_n hX dLaw_law_120_874 rfl ?_
      refine k_iconst hX dLaw_law_120_875 ?_
      refine k_iadd hX dLaw_law_120_876 ?_
      refine k_sld hX hR.1 dLaw_law_120_877 (fun y162 => ?_)
      refine cl_203 hX (by decide) (Nat.le_of_ble_eq_true rfl) dLaw_law_120_878 (fun r164 τ163 => ?_)
      refine k_same (tgt := 1412) hX dLaw_law_120_881 (by decide) ?_
      exact tLaw_law_120_J1412 hX hR x3 τ163 hT hb0
    · refine k_aload_n hX dLaw_law_120_886 rfl ?_
      refine cl_204 hX (by decide) (Nat.le_of_ble_eq_true rfl) dLaw_law_120_887 (fun r166 τ165 => ?_)
      refine k_aload_n hX dLaw_law_120_890 rfl ?_
      refine cl_205 hX (by decide) (Nat.le_of_ble_eq_true rfl) dLaw_law_120_891 (fun r168 τ167 => ?_)
      refine k_same (tgt := 1412) hX dLaw_law_120_894 (by decide) ?_
      exact tLaw_law_120_J1412 hX hR x3 τ167 hT hb0
    · refine k_aload_n hX dLaw_law_120_899 rfl ?_
      refine k_aload_n hX dLaw_law_120_900 rfl ?_
      refine k_iload_n hX dLaw_law_120_901 rfl ?_
      refine k_iconst hX dLaw_law_120_902 ?_
      refine k_iadd hX dLaw_law_120_903 ?_
      refine k_sld hX hR.1 dLaw_law_120_904 (fun y169 => ?_)
      refine cl_206 hX (by decide) (Nat.le_of_ble_eq_true rfl) dLaw_law_120_905 (fun r171 τ170 => ?_)
      refine k_aload_n hX dLaw_law_120_908 rfl ?_
      refine k_aload_n hX dLaw_law_120_909 rfl ?_
      refine k_iload_n hX dLaw_law_120_910 rfl ?_
      refine k_iconst hX dLaw_law_120_911 ?_
      refine k_iadd hX dLaw_law_120_912 ?_
      refine k_sld hX hR.1 dLaw_law_120_913 (fun y172 => ?_)
      refine cl_207 hX (by decide) (Nat.le_of_ble_eq_true rfl) dLaw_law_120_914 (fun r174 τ173 => ?_)
      refine k_same (tgt := 1412) hX dLaw_law_120_917 (by decide) ?_
      exact tLaw_law_120_J1412 hX hR x3 τ173 hT hb0
    · refine k_aload_n hX dLaw_law_120_922 rfl ?_
      refine cl_208 hX (by decide) (Nat.le_of_ble_eq_true rfl) dLaw_law_120_923 (fun r176 τ175 => ?_)
      refine k_aload_n hX dLaw_law_120_926 rfl ?_
      refine cl_209 hX (by decide) (Nat.le_of_ble_eq_true rfl) dLaw_law_120_927 (fun r178 τ177 => ?_)
      refine k_same (tgt := 1412) hX dLaw_law_120_930 (by decide) ?_
      exact tLaw_law_120_J1412 hX hR x3 τ177 hT hb0
    · refine k_aload_n hX dLaw_law_120_935 rfl ?_
      refine k_aload_n hX dLaw_law_120_936 rfl ?_
      refine k_iload_n hX dLaw_law_120_937 rfl ?_
      refine k_iconst hX dLaw_law_120_938 ?_
      refine k_iadd hX dLaw_law_120_939 ?_
      refine k_sld hX hR.1 dLaw_law_120_940 (fun y179 => ?_)
      refine k_aload_n hX dLaw_law_120_941 rfl ?_
      refine k_iload_n hX dLaw_law_120_942 rfl ?_
      refine k_iconst hX dLaw_law_120_943 ?_
      refine k_iadd hX dLaw_law_120_944 ?_
      refine k_sld hX hR.1 dLaw_law_120_945 (fun y180 => ?_)
      refine cl_210 hX (by decide) (Nat.le_of_ble_eq_true rfl) dLaw_law_120_946 (fun r182 τ181 => ?_)
      refine k_aload_n hX dLaw_law_120_949 rfl ?_
      refine k_aload_n hX dLaw_law_120_950 rfl ?_
      refine k_iload_n hX dLaw_law_120_951 rfl ?_
      refine k_iconst hX dLaw_law_120_952 ?_
      refine k_iadd hX dLaw_law_120_953 ?_
      refine k_sld hX hR.1 dLaw_law_120_954 (fun y183 => ?_)
      refine k_aload_n hX dLaw_law_120_955 rfl ?_
      refine k_iload_n hX dLaw_law_120_956 rfl ?_
      refine k_iconst hX dLaw_law_120_957 ?_
      refine k_iadd hX dLaw_law_120_958 ?_
      refine k_sld hX hR.1 dLaw_law_120_959 (fun y184 => ?_)
      refine cl_211 hX (by decide) (Nat.le_of_ble_eq_true rfl) dLaw_law_120_960 (fun r186 τ185 => ?_)
      refine k_same (tgt := 1412) hX dLaw_law_120_963 (by decide) ?_
      exact tLaw_law_120_J1412 hX hR x3 τ185 hT hb0
    · refine k_aload_n hX dLaw_law_120_968 rfl ?_
      refine k_aload_n hX dLaw_law_120_969 rfl ?_
      refine k_iload_n hX dLaw_law_120_970 rfl ?_
      refine k_iconst hX dLaw_law_120_971 ?_
      refine k_iadd hX dLaw_law_120_972 ?_
      refine k_sld hX hR.1 dLaw_law_120_973 (fun y187 => ?_)
      refine k_aload_n hX dLaw_law_120_974 rfl ?_
      refine k_iload_n hX dLaw_law_120_975 rfl ?_
      refine k_iconst hX dLaw_law_120_976 ?_
      refine k_iadd hX dLaw_law_120_977 ?_
      refine k_sld hX hR.1 dLaw_law_120_978 (fun y188 => ?_)
      refine cl_212 hX (by decide) (Nat.le_of_ble_eq_true rfl) dLaw_law_120_979 (fun r190 τ189 => ?_)
      refine k_aload_n hX dLaw_law_120_982 rfl ?_
      refine k_aload_n hX dLaw_law_120_983 rfl ?_
      refine k_iload_n hX dLaw_law_120_984 rfl ?_
      refine k_iconst hX dLaw_law_120_985 ?_
      refine k_iadd hX dLaw_law_120_986 ?_
      refine k_sld hX hR.1 dLaw_law_120_987 (fun y191 => ?_)
      refine k_aload_n hX dLaw_law_120_988 rfl ?_
      refine k_iload_n hX dLaw_law_120_989 rfl ?_
      refine k_iconst hX dLaw_law_120_990 ?_
      refine k_iadd hX dLaw_law_120_991 ?_
      refine k_sld hX hR.1 dLaw_law_120_992 (fun y192 => ?_)
      refine cl_213 hX (by decide) (Nat.le_of_ble_eq_true rfl) dLaw_law_120_993 (fun r194 τ193 => ?_)
      refine k_same (tgt := 1412) hX dLaw_law_120_996 (by decide) ?_
      exact tLaw_law_120_J1412 hX hR x3 τ193 hT hb0
    · refine k_aload_n hX dLaw_law_120_1001 rfl ?_
      refine k_aload_n hX dLaw_law_120_1002 rfl ?_
      refine k_iload_n hX dLaw_law_120_1003 rfl ?_
      refine k_iconst hX dLaw_law_120_1004 ?_
      refine k_iadd hX dLaw_law_120_1005 ?_
      refine k_sld hX hR.1 dLaw_law_120_1006 (fun y195 => ?_)
      refine cl_214 hX (by decide) (Nat.le_of_ble_eq_true rfl) dLaw_law_120_1007 (fun r197 τ196 => ?_)
      refine k_aload_n hX dLaw_law_120_1010 rfl ?_
      refine k_aload_n hX dLaw_law_120_1011 rfl ?_
      refine k_iload_n hX dLaw_law_120_1012 rfl ?_
      refine k_iconst hX dLaw_law_120_1013 ?_
      refine k_iadd hX dLaw_law_120_1014 ?_
      refine k_sld hX hR.1 dLaw_law_120_1015 (fun y198 => ?_)
      refine cl_215 hX (by decide) (Nat.le_of_ble_eq_true rfl) dLaw_law_120_1016 (fun r200 τ199 => ?_)
      refine k_same (tgt := 1412) hX dLaw_law_120_1019 (by decide) ?_
      exact tLaw_law_120_J1412 hX hR x3 τ199 hT hb0
    · refine k_aload_n hX dLaw_law_120_1024 rfl ?_
      refine k_aload_n hX dLaw_law_120_1025 rfl ?_
      refine k_iload_n hX dLaw_law_120_1026 rfl ?_
      refine k_iconst hX dLaw_law_120_1027 ?_
      refine k_iadd hX dLaw_law_120_1028 ?_
      refine k_sld hX hR.1 dLaw_law_120_1029 (fun y201 => ?_)
      refine cl_216 hX (by decide) (Nat.le_of_ble_eq_true rfl) dLaw_law_120_1030 (fun r203 τ202 => ?_)
      refine k_aload_n hX dLaw_law_120_1033 rfl ?_
      refine k_aload_n hX dLaw_law_120_1034 rfl ?_
      refine k_iload_n hX dLaw_law_120_1035 rfl ?_
      refine k_iconst hX dLaw_law_120_1036 ?_
      refine k_iadd hX dLaw_law_120_1037 ?_
      refine k_sld hX hR.1 dLaw_law_120_1038 (fun y204 => ?_)
      refine cl_217 hX (by decide) (Nat.le_of_ble_eq_true rfl) dLaw_law_120_1039 (fun r206 τ205 => ?_)
      refine k_same (tgt := 1412) hX dLaw_law_120_1042 (by decide) ?_
      exact tLaw_law_120_J1412 hX hR x3 τ205 hT hb0
    · refine k_aload_n hX dLaw_law_120_1047 rfl ?_
      refine k_aload_n hX dLaw_law_120_1048 rfl ?_
      refine k_iload_n hX dLaw_law_120_1049 rfl ?_
      refine k_iconst hX dLaw_law_120_1050 ?_
      refine k_iadd hX dLaw_law_120_1051 ?_
      refine k_sld hX hR.1 dLaw_law_120_1052 (fun y207 => ?_)
      refine cl_218 hX (by decide) (Nat.le_of_ble_eq_true rfl) dLaw_law_120_1053 (fun r209 τ208 => ?_)
      refine k_aload_n hX dLaw_law_120_1056 rfl ?_
      refine k_aload_n hX dLaw_law_120_1057 rfl ?_
      refine k_iload_n hX dLaw_law_120_1058 rfl ?_
      refine k_iconst hX dLaw_law_120_1059 ?_
      refine k_iadd hX dLaw_law_120_1060 ?_
      refine k_sld hX hR.1 dLaw_law_120_1061 (fun y210 => ?_)
      refine cl_219 hX (by decide) (Nat.le_of_ble_eq_true rfl) dLaw_law_120_1062 (fun r212 τ211 => ?_)
      refine k_same (tgt := 1412) hX dLaw_law_120_1065 (by decide) ?_
      exact tLaw_law_120_J1412 hX hR x3 τ211 hT hb0
    · refine k_aload_n hX dLaw_law_120_1070 rfl ?_
      refine cl_220 hX (by decide) (Nat.le_of_ble_eq_true rfl) dLaw_law_120_1071 (fun r214 τ213 => ?_)
      refine k_aload_n hX dLaw_law_120_1074 rfl ?_
      refine cl_221 hX (by decide) (Nat.le_of_ble_eq_true rfl) dLaw_law_120_1075 (fun r216 τ215 => ?_)
      refine k_same (tgt := 1412) hX dLaw_law_120_1078 (by decide) ?_
      exact tLaw_law_120_J1412 hX hR x3 τ215 hT hb0
    · refine k_aload_n hX dLaw_law_120_1083 rfl ?_
      refine cl_222 hX (by decide) (Nat.le_of_ble_eq_true rfl) dLaw_law_120_1084 (fun r218 τ217 => ?_)
      refine k_aload_n hX dLaw_law_120_1087 rfl ?_
      refine cl_223 hX (by decide) (Nat.le_of_ble_eq_true rfl) dLaw_law_120_1088 (fun r220 τ219 => ?_)
      refine k_same (tgt := 1412) hX dLaw_law_120_1091 (by decide) ?_
      exact tLaw_law_120_J1412 hX hR x3 τ219 hT hb0
    · refine k_aload_n hX dLaw_law_120_1096 rfl ?_
      refine k_aload_n hX dLaw_law_120_1097 rfl ?_
      refine k_iload_n hX dLaw_law_120_1098 rfl ?_
      refine k_iconst hX dLaw_law_120_1099 ?_
      refine k_iadd hX dLaw_law_120_1100 ?_
      refine k_sld hX hR.1 dLaw_law_120_1101 (fun y221 => ?_)
      refine k_aload_n hX dLaw_law_120_1102 rfl ?_
      refine k_iload_n hX dLaw_law_120_1103 rfl ?_
      refine k_iconst hX dLaw_law_120_1104 ?_
      refine k_iadd hX dLaw_law_120_1105 ?_
      refine k_sld hX hR.1 dLaw_law_120_1106 (fun y222 => ?_)
      refine cl_224 hX (by decide) (Nat.le_of_ble_eq_true rfl) dLaw_law_120_1107 (fun r224 τ223 => ?_)
      refine k_aload_n hX dLaw_law_120_1110 rfl ?_
      refine k_aload_n hX dLaw_law_120_1111 rfl ?_
      refine k_iload_n hX dLaw_law_120_1112 rfl ?_
      refine k_iconst hX dLaw_law_120_1113 ?_
      refine k_iadd hX dLaw_law_120_1114 ?_
      refine k_sld hX hR.1 dLaw_law_120_1115 (fun y225 => ?_)
      refine k_aload_n hX dLaw_law_120_1116 rfl ?_
      refine k_iload_n hX dLaw_law_120_1117 rfl ?_
      refine k_iconst hX dLaw_law_120_1118 ?_
      refine k_iadd hX dLaw_law_120_1119 ?_
      refine k_sld hX hR.1 dLaw_law_120_1120 (fun y226 => ?_)
      refine cl_225 hX (by decide) (Nat.le_of_ble_eq_true rfl) dLaw_law_120_1121 (fun r228 τ227 => ?_)
      refine k_same (tgt := 1412) hX dLaw_law_120_1124 (by decide) ?_
      exact tLaw_law_120_J1412 hX hR x3 τ227 hT hb0
    · refine k_aload_n hX dLaw_law_120_1129 rfl ?_
      refine k_aload_n hX dLaw_law_120_1130 rfl ?_
      refine k_iload_n hX dLaw_law_120_1131 rfl ?_
      refine k_iconst hX dLaw_law_120_1132 ?_
      refine k_iadd hX dLaw_law_120_1133 ?_
      refine k_sld hX hR.1 dLaw_law_120_1134 (fun y229 => ?_)
      refine k_aload_n hX dLaw_law_120_1135 rfl ?_
      refine k_iload_n hX dLaw_law_120_1136 rfl ?_
      refine k_iconst hX dLaw_law_120_1137 ?_
      refine k_iadd hX dLaw_law_120_1138 ?_
      refine k_sld hX hR.1 dLaw_law_120_1139 (fun y230 => ?_)
      refine cl_226 hX (by decide) (Nat.le_of_ble_eq_true rfl) dLaw_law_120_1140 (fun r232 τ231 => ?_)
      refine k_aload_n hX dLaw_law_120_1143 rfl ?_
      refine k_aload_n hX dLaw_law_120_1144 rfl ?_
      refine k_iload_n hX dLaw_law_120_1145 rfl ?_
      refine k_iconst hX dLaw_law_120_1146 ?_
      refine k_iadd hX dLaw_law_120_1147 ?_
      refine k_sld hX hR.1 dLaw_law_120_1148 (fun y233 => ?_)
      refine k_aload_n hX dLaw_law_120_1149 rfl ?_
      refine k_iload_n hX dLaw_law_120_1150 rfl ?_
      refine k_iconst hX dLaw_law_120_1151 ?_
      refine k_iadd hX dLaw_law_120_1152 ?_
      refine k_sld hX hR.1 dLaw_law_120_1153 (fun y234 => ?_)
      refine cl_227 hX (by decide) (Nat.le_of_ble_eq_true rfl) dLaw_law_120_1154 (fun r236 τ235 => ?_)
      refine k_same (tgt := 1412) hX dLaw_law_120_1157 (by decide) ?_
      exact tLaw_law_120_J1412 hX hR x3 τ235 hT hb0
    · refine k_aload_n hX dLaw_law_120_1162 rfl ?_
      refine k_aload_n hX dLaw_law_120_1163 rfl ?_
      refine k_iload_n hX dLaw_law_120_1164 rfl ?_
      refine k_iconst hX dLaw_law_120_1165 ?_
      refine k_iadd hX dLaw_law_120_1166 ?_
      refine k_sld hX hR.1 dLaw_law_120_1167 (fun y237 => ?_)
      refine cl_228 hX (by decide) (Nat.le_of_ble_eq_true rfl) dLaw_law_120_1168 (fun r239 τ238 => ?_)
      refine k_aload_n hX dLaw_law_120_1171 rfl ?_
      refine k_aload_n hX dLaw_law_120_1172 rfl ?_
      refine k_iload_n hX dLaw_law_120_1173 rfl ?_
      refine k_iconst hX dLaw_law_120_1174 ?_
      refine k_iadd hX dLaw_law_120_1175 ?_
      refine k_sld hX hR.1 dLaw_law_120_1176 (fun y240 => ?_)
      refine cl_229 hX (by decide) (Nat.le_of_ble_eq_true rfl) dLaw_law_120_1177 (fun r242 τ241 => ?_)
      refine k_same (tgt := 1412) hX dLaw_law_120_1180 (by decide) ?_
      exact tLaw_law_120_J1412 hX hR x3 τ241 hT hb0
    · refine k_aload_n hX dLaw_law_120_1185 rfl ?_
      refine cl_230 hX (by decide) (Nat.le_of_ble_eq_true rfl) dLaw_law_120_1186 (fun r244 τ243 => ?_)
      refine k_aload_n hX dLaw_law_120_1189 rfl ?_
      refine cl_231 hX (by decide) (Nat.le_of_ble_eq_true rfl) dLaw_law_120_1190 (fun r246 τ245 => ?_)
      refine k_same (tgt := 1412) hX dLaw_law_120_1193 (by decide) ?_
      exact tLaw_law_120_J1412 hX hR x3 τ245 hT hb0
    · refine k_aload_n hX dLaw_law_120_1198 rfl ?_
      refine k_aload_n hX dLaw_law_120_1199 rfl ?_
      refine k_iload_n hX dLaw_law_120_1200 rfl ?_
      refine k_iconst hX dLaw_law_120_1201 ?_
      refine k_iadd hX dLaw_law_120_1202 ?_
      refine k_sld hX hR.1 dLaw_law_120_1203 (fun y247 => ?_)
      refine cl_232 hX (by decide) (Nat.le_of_ble_eq_true rfl) dLaw_law_120_1204 (fun r249 τ248 => ?_)
      refine k_aload_n hX dLaw_law_120_1207 rfl ?_
      refine k_aload_n hX dLaw_law_120_1208 rfl ?_
      refine k_iload_n hX dLaw_law_120_1209 rfl ?_
      refine k_iconst hX dLaw_law_120_1210 ?_
      refine k_iadd hX dLaw_law_120_1211 ?_
      refine k_sld hX hR.1 dLaw_law_120_1212 (fun y250 => ?_)
      refine cl_233 hX (by decide) (Nat.le_of_ble_eq_true rfl) dLaw_law_120_1213 (fun r252 τ251 => ?_)
      refine k_same (tgt := 1412) hX dLaw_law_120_1216 (by decide) ?_
      exact tLaw_law_120_J1412 hX hR x3 τ251 hT hb0
    · refine k_aload_n hX dLaw_law_120_1221 rfl ?_
      refine k_aload_n hX dLaw_law_120_1222 rfl ?_
      refine k_iload_n hX dLaw_law_120_1223 rfl ?_
      refine k_iconst hX dLaw_law_120_1224 ?_
      refine k_iadd hX dLaw_law_120_1225 ?_
      refine k_sld hX hR.1 dLaw_law_120_1226 (fun y253 => ?_)
      refine cl_234 hX (by decide) (Nat.le_of_ble_eq_true rfl) dLaw_law_120_1227 (fun r255 τ254 => ?_)
      refine k_aload_n hX dLaw_law_120_1230 rfl ?_
      refine k_aload_n hX dLaw_law_120_1231 rfl ?_
      refine k_iload_n hX dLaw_law_120_1232 rfl ?_
      refine k_iconst hX dLaw_law_120_1233 ?_
      refine k_iadd hX dLaw_law_120_1234 ?_
      refine k_sld hX hR.1 dLaw_law_120_1235 (fun y256 => ?_)
      refine cl_235 hX (by decide) (Nat.le_of_ble_eq_true rfl) dLaw_law_120_1236 (fun r258 τ257 => ?_)
      refine k_same (tgt := 1412) hX dLaw_law_120_1239 (by decide) ?_
      exact tLaw_law_120_J1412 hX hR x3 τ257 hT hb0
    · refine k_aload_n hX dLaw_law_120_1244 rfl ?_
      refine k_aload_n hX dLaw_law_120_1245 rfl ?_
      refine k_iload_n hX dLaw_law_120_1246 rfl ?_
      refine k_iconst hX dLaw_law_120_1247 ?_
      refine k_iadd hX dLaw_law_120_1248 ?_
      refine k_sld hX hR.1 dLaw_law_120_1249 (fun y259 => ?_)
      refine k_aload_n hX dLaw_law_120_1250 rfl ?_
      refine k_iload_n hX dLaw_law_120_1251 rfl ?_
      refine k_iconst hX dLaw_law_120_1252 ?_
      refine k_iadd hX dLaw_law_120_1253 ?_
      refine k_sld hX hR.1 dLaw_law_120_1254 (fun y260 => ?_)
      refine cl_236 hX (by decide) (Nat.le_of_ble_eq_true rfl) dLaw_law_120_1255 (fun r262 τ261 => ?_)
      refine k_aload_n hX dLaw_law_120_1258 rfl ?_
      refine k_aload_n hX dLaw_law_120_1259 rfl ?_
      refine k_iload_n hX dLaw_law_120_1260 rfl ?_
      refine k_iconst hX dLaw_law_120_1261 ?_
      refine k_iadd hX dLaw_law_120_1262 ?_
      refine k_sld hX hR.1 dLaw_law_120_1263 (fun y263 => ?_)
      refine k_aload_n hX dLaw_law_120_1264 rfl ?_
      refine k_iload_n hX dLaw_law_120_1265 rfl ?_
      refine k_iconst hX dLaw_law_120_1266 ?_
      refine k_iadd hX dLaw_law_120_1267 ?_
      refine k_sld hX hR.1 dLaw_law_120_1268 (fun y264 => ?_)
      refine cl_237 hX (by decide) (Nat.le_of_ble_eq_true rfl) dLaw_law_120_1269 (fun r266 τ265 => ?_)
      refine k_same (tgt := 1412) hX dLaw_law_120_1272 (by decide) ?_
      exact tLaw_law_120_J1412 hX hR x3 τ265 hT hb0
    · refine k_aload_n hX dLaw_law_120_1277 rfl ?_
      refine k_aload_n hX dLaw_law_120_1278 rfl ?_
      refine k_iload_n hX dLaw_law_120_1279 rfl ?_
      refine k_iconst hX dLaw_law_120_1280 ?_
      refine k_iadd hX dLaw_law_120_1281 ?_
      refine k_sld hX hR.1 dLaw_law_120_1282 (fun y267 => ?_)
      refine k_aload_n hX dLaw_law_120_1283 rfl ?_
      refine k_iload_n hX dLaw_law_120_1284 rfl ?_
      refine k_iconst hX dLaw_law_120_1285 ?_
      refine k_iadd hX dLaw_law_120_1286 ?_
      refine k_sld hX hR.1 dLaw_law_120_1287 (fun y268 => ?_)
      refine cl_238 hX (by decide) (Nat.le_of_ble_eq_true rfl) dLaw_law_120_1288 (fun r270 τ269 => ?_)
      refine k_aload_n hX dLaw_law_120_1291 rfl ?_
      refine k_aload_n hX dLaw_law_120_1292 rfl ?_
      refine k_iload_n hX dLaw_law_120_1293 rfl ?_
      refine k_iconst hX dLaw_law_120_1294 ?_
      refine k_iadd hX dLaw_law_120_1295 ?_
      refine k_sld hX hR.1 dLaw_law_120_1296 (fun y271 => ?_)
      refine k_aload_n hX dLaw_law_120_1297 rfl ?_
      refine k_iload_n hX dLaw_law_120_1298 rfl ?_
      refine k_iconst hX dLaw_law_120_1299 ?_
      refine k_iadd hX dLaw_law_120_1300 ?_
      refine k_sld hX hR.1 dLaw_law_120_1301 (fun y272 => ?_)
      refine cl_239 hX (by decide) (Nat.le_of_ble_eq_true rfl) dLaw_law_120_1302 (fun r274 τ273 => ?_)
      refine k_same (tgt := 1412) hX dLaw_law_120_1305 (by decide) ?_
      exact tLaw_law_120_J1412 hX hR x3 τ273 hT hb0
    · refine k_aload_n hX dLaw_law_120_1310 rfl ?_
      refine cl_240 hX (by decide) (Nat.le_of_ble_eq_true rfl) dLaw_law_120_1311 (fun r276 τ275 => ?_)
      refine k_aload_n hX dLaw_law_120_1314 rfl ?_
      refine cl_241 hX (by decide) (Nat.le_of_ble_eq_true rfl) dLaw_law_120_1315 (fun r278 τ277 => ?_)
      refine k_same (tgt := 1412) hX dLaw_law_120_1318 (by decide) ?_
      exact tLaw_law_120_J1412 hX hR x3 τ277 hT hb0
    · refine k_aload_n hX dLaw_law_120_1323 rfl ?_
      refine k_aload_n hX dLaw_law_120_1324 rfl ?_
      refine k_iload_n hX dLaw_law_120_1325 rfl ?_
      refine k_iconst hX dLaw_law_120_1326 ?_
      refine k_iadd hX dLaw_law_120_1327 ?_
      refine k_sld hX hR.1 dLaw_law_120_1328 (fun y279 => ?_)
      refine k_aload_n hX dLaw_law_120_1329 rfl ?_
      refine k_iload_n hX dLaw_law_120_1330 rfl ?_
      refine k_iconst hX dLaw_law_120_1331 ?_
      refine k_iadd hX dLaw_law_120_1332 ?_
      refine k_sld hX hR.1 dLaw_law_120_1333 (fun y280 => ?_)
      refine cl_242 hX (by decide) (Nat.le_of_ble_eq_true rfl) dLaw_law_120_1334 (fun r282 τ281 => ?_)
      refine k_aload_n hX dLaw_law_120_1337 rfl ?_
      refine k_aload_n hX dLaw_law_120_1338 rfl ?_
      refine k_iload_n hX dLaw_law_120_1339 rfl ?_
      refine k_iconst hX dLaw_law_120_1340 ?_
      refine k_iadd hX dLaw_law_120_1341 ?_
      refine k_sld hX hR.1 dLaw_law_120_1342 (fun y283 => ?_)
      refine k_aload_n hX dLaw_law_120_1343 rfl ?_
      refine k_iload_n hX dLaw_law_120_1344 rfl ?_
      refine k_iconst hX dLaw_law_120_1345 ?_
      refine k_iadd hX dLaw_law_120_1346 ?_
      refine k_sld hX hR.1 dLaw_law_120_1347 (fun y284 => ?_)
      refine cl_243 hX (by decide) (Nat.le_of_ble_eq_true rfl) dLaw_law_120_1348 (fun r286 τ285 => ?_)
      refine k_same (tgt := 1412) hX dLaw_law_120_1351 (by decide) ?_
      exact tLaw_law_120_J1412 hX hR x3 τ285 hT hb0
    · refine k_aload_n hX dLaw_law_120_1356 rfl ?_
      refine k_aload_n hX dLaw_law_120_1357 rfl ?_
      refine k_iload_n hX dLaw_law_120_1358 rfl ?_
      refine k_iconst hX dLaw_law_120_1359 ?_
      refine k_iadd hX dLaw_law_120_1360 ?_
      refine k_sld hX hR.1 dLaw_law_120_1361 (fun y287 => ?_)
      refine k_aload_n hX dLaw_law_120_1362 rfl ?_
      refine k_iload_n hX dLaw_law_120_1363 rfl ?_
      refine k_iconst hX dLaw_law_120_1364 ?_
      refine k_iadd hX dLaw_law_120_1365 ?_
      refine k_sld hX hR.1 dLaw_law_120_1366 (fun y288 => ?_)
      refine cl_244 hX (by decide) (Nat.le_of_ble_eq_true rfl) dLaw_law_120_1367 (fun r290 τ289 => ?_)
      refine k_aload_n hX dLaw_law_120_1370 rfl ?_
      refine k_aload_n hX dLaw_law_120_1371 rfl ?_
      refine k_iload_n hX dLaw_law_120_1372 rfl ?_
      refine k_iconst hX dLaw_law_120_1373 ?_
      refine k_iadd hX dLaw_law_120_1374 ?_
      refine k_sld hX hR.1 dLaw_law_120_1375 (fun y291 => ?_)
      refine k_aload_n hX dLaw_law_120_1376 rfl ?_
      refine k_iload_n hX dLaw_law_120_1377 rfl ?_
      refine k_iconst hX dLaw_law_120_1378 ?_
      refine k_iadd hX dLaw_law_120_1379 ?_
      refine k_sld hX hR.1 dLaw_law_120_1380 (fun y292 => ?_)
      refine cl_245 hX (by decide) (Nat.le_of_ble_eq_true rfl) dLaw_law_120_1381 (fun r294 τ293 => ?_)
      refine k_same (tgt := 1412) hX dLaw_law_120_1384 (by decide) ?_
      exact tLaw_law_120_J1412 hX hR x3 τ293 hT hb0
    · refine k_aload_n hX dLaw_law_120_1389 rfl ?_
      refine k_aload_n hX dLaw_law_120_1390 rfl ?_
      refine k_iload_n hX dLaw_law_120_1391 rfl ?_
      refine k_iconst hX dLaw_law_120_1392 ?_
      refine k_iadd hX dLaw_law_120_1393 ?_
      refine k_sld hX hR.1 dLaw_law_120_1394 (fun y295 => ?_)
      refine cl_246 hX (by decide) (Nat.le_of_ble_eq_true rfl) dLaw_law_120_1395 (fun r297 τ296 => ?_)
      refine k_aload_n hX dLaw_law_120_1398 rfl ?_
      refine k_aload_n hX dLaw_law_120_1399 rfl ?_
      refine k_iload_n hX dLaw_law_120_1400 rfl ?_
      refine k_iconst hX dLaw_law_120_1401 ?_
      refine k_iadd hX dLaw_law_120_1402 ?_
      refine k_sld hX hR.1 dLaw_law_120_1403 (fun y298 => ?_)
      refine cl_247 hX (by decide) (Nat.le_of_ble_eq_true rfl) dLaw_law_120_1404 (fun r300 τ299 => ?_)
      refine k_same (tgt := 1412) hX dLaw_law_120_1407 (by decide) ?_
      exact tLaw_law_120_J1412 hX hR x3 τ299 hT hb0
    · exact tLaw_law_120_J1412 hX hR x3 σ hT hb0
set_option maxRecDepth 100000 in
set_option maxHeartbeats 8000000 in
theorem tLaw_law_120_L18 {X : KC} {q : Int × KM} {nS : Int} {xS : Int → Int} (hX : kOk X 2048 code 4 "KeyPathLaw") (hR : kRetL X nS xS q) (x3 : Int) (σ : KM) {Θ : (Int × KM) → Prop} (hT : ∀ z, Θ (z) → z = q) : kJ X 18 [lq 120, lq 0, lq 10, li x3] [] σ (fLaw_law_120_L18 nS xS x3 σ) Θ :=
  k_iter (f := fun s => fLaw_law_120_B18 nS xS s.1 s.2) (Lf := fun s => [lq 120, lq 0, lq 10, li s.1]) (mf := fun s => s.2) (Θ := Θ) (fun s => tLaw_law_120_B18 hX hR s.1 s.2 hT (fun _ h9 => h9)) kF (x3, σ)
