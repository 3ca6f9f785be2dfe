theorem wq_295 : Cond.methodLink RL 13 yX7_cell ∈ zTb := zmem 295 (by decide +kernel) rfl
theorem wq_296 : Cond.instanceMethod yX7_cell ∈ zTb := zmem 296 (by decide +kernel) rfl
theorem wq_297 : Cond.selects yX7_cell.cls yX7_cell yX7_cell ∈ zTb := zmem 297 (by decide +kernel) rfl
theorem wq_298 : Cond.code yX7_cell cX7_cell 4 (some .int) ∈ zTb := zmem 298 (by decide +kernel) rfl
theorem wq_895 : Cond.methodLink RL 17 yX8_cell ∈ zTb := zmem 895 (by decide +kernel) rfl
theorem wq_896 : Cond.instanceMethod yX8_cell ∈ zTb := zmem 896 (by decide +kernel) rfl
theorem wq_897 : Cond.selects yX8_cell.cls yX8_cell yX8_cell ∈ zTb := zmem 897 (by decide +kernel) rfl
theorem wq_898 : Cond.code yX8_cell cX8_cell 4 (some .int) ∈ zTb := zmem 898 (by decide +kernel) rfl
theorem wq_319 : Cond.methodLink RL 18 yX7_of ∈ zTb := zmem 319 (by decide +kernel) rfl
theorem wq_320 : Cond.instanceMethod yX7_of ∈ zTb := zmem 320 (by decide +kernel) rfl
theorem wq_321 : Cond.selects yX7_of.cls yX7_of yX7_of ∈ zTb := zmem 321 (by decide +kernel) rfl
theorem wq_322 : Cond.code yX7_of cX7_of 5 (some .int) ∈ zTb := zmem 322 (by decide +kernel) rfl
theorem wq_910 : Cond.methodLink RL 22 yX8_of ∈ zTb := zmem 910 (by decide +kernel) rfl
theorem wq_911 : Cond.instanceMethod yX8_of ∈ zTb := zmem 911 (by decide +kernel) rfl
theorem wq_912 : Cond.selects yX8_of.cls yX8_of yX8_of ∈ zTb := zmem 912 (by decide +kernel) rfl
theorem wq_913 : Cond.code yX8_of cX8_of 3 (some .int) ∈ zTb := zmem 913 (by decide +kernel) rfl
theorem wq_427 : Cond.methodLink RL 23 yX7_field ∈ zTb := zmem 427 (by decide +kernel) rfl
theorem wq_428 : Cond.instanceMethod yX7_field ∈ zTb := zmem 428 (by decide +kernel) rfl
theorem wq_429 : Cond.selects yX7_field.cls yX7_field yX7_field ∈ zTb := zmem 429 (by decide +kernel) rfl
theorem wq_430 : Cond.code yX7_field cX7_field 3 (some .int) ∈ zTb := zmem 430 (by decide +kernel) rfl
theorem wq_962 : Cond.methodLink RL 26 yX8_field ∈ zTb := zmem 962 (by decide +kernel) rfl
theorem wq_963 : Cond.instanceMethod yX8_field ∈ zTb := zmem 963 (by decide +kernel) rfl
theorem wq_964 : Cond.selects yX8_field.cls yX8_field yX8_field ∈ zTb := zmem 964 (by decide +kernel) rfl
theorem wq_965 : Cond.code yX8_field cX8_field 3 (some .int) ∈ zTb := zmem 965 (by decide +kernel) rfl
theorem wq_433 : Cond.methodLink RL 27 yX7_raw ∈ zTb := zmem 433 (by decide +kernel) rfl
theorem wq_434 : Cond.instanceMethod yX7_raw ∈ zTb := zmem 434 (by decide +kernel) rfl
theorem wq_435 : Cond.selects yX7_raw.cls yX7_raw yX7_raw ∈ zTb := zmem 435 (by decide +kernel) rfl
theorem wq_436 : Cond.code yX7_raw cX7_raw 3 (some .int) ∈ zTb := zmem 436 (by decide +kernel) rfl
theorem wq_966 : Cond.methodLink RL 30 yX8_raw ∈ zTb := zmem 966 (by decide +kernel) rfl
theorem wq_967 : Cond.instanceMethod yX8_raw ∈ zTb := zmem 967 (by decide +kernel) rfl
theorem wq_968 : Cond.selects yX8_raw.cls yX8_raw yX8_raw ∈ zTb := zmem 968 (by decide +kernel) rfl
theorem wq_969 : Cond.code yX8_raw cX8_raw 4 (some .int) ∈ zTb := zmem 969 (by decide +kernel) rfl
theorem wq_458 : Cond.methodLink RL 31 yX7_hold ∈ zTb := zmem 458 (by decide +kernel) rfl
theorem wq_459 : Cond.instanceMethod yX7_hold ∈ zTb := zmem 459 (by decide +kernel) rfl
theorem wq_460 : Cond.selects yX7_hold.cls yX7_hold yX7_hold ∈ zTb := zmem 460 (by decide +kernel) rfl
theorem wq_461 : Cond.code yX7_hold cX7_hold 5 (some .int) ∈ zTb := zmem 461 (by decide +kernel) rfl
theorem wq_974 : Cond.methodLink RL 34 yX8_hold ∈ zTb := zmem 974 (by decide +kernel) rfl
theorem wq_975 : Cond.instanceMethod yX8_hold ∈ zTb := zmem 975 (by decide +kernel) rfl
theorem wq_976 : Cond.selects yX8_hold.cls yX8_hold yX8_hold ∈ zTb := zmem 976 (by decide +kernel) rfl
theorem wq_977 : Cond.code yX8_hold cX8_hold 5 (some .int) ∈ zTb := zmem 977 (by decide +kernel) rfl
theorem wq_473 : Cond.methodLink RL 35 yX7_tag ∈ zTb := zmem 473 (by decide +kernel) rfl
theorem wq_474 : Cond.instanceMethod yX7_tag ∈ zTb := zmem 474 (by decide +kernel) rfl
theorem wq_475 : Cond.selects yX7_tag.cls yX7_tag yX7_tag ∈ zTb := zmem 475 (by decide +kernel) rfl
theorem wq_476 : Cond.code yX7_tag cX7_tag 4 (some .int) ∈ zTb := zmem 476 (by decide +kernel) rfl
theorem wq_978 : Cond.methodLink RL 38 yX8_tag ∈ zTb := zmem 978 (by decide +kernel) rfl
theorem wq_979 : Cond.instanceMethod yX8_tag ∈ zTb := zmem 979 (by decide +kernel) rfl
theorem wq_980 : Cond.selects yX8_tag.cls yX8_tag yX8_tag ∈ zTb := zmem 980 (by decide +kernel) rfl
theorem wq_981 : Cond.code yX8_tag cX8_tag 4 (some .int) ∈ zTb := zmem 981 (by decide +kernel) rfl
theorem wq_481 : Cond.methodLink RL 39 yX7_root ∈ zTb := zmem 481 (by decide +kernel) rfl
theorem wq_482 : Cond.instanceMethod yX7_root ∈ zTb := zmem 482 (by decide +kernel) rfl
theorem wq_483 : Cond.selects yX7_root.cls yX7_root yX7_root ∈ zTb := zmem 483 (by decide +kernel) rfl
theorem wq_484 : Cond.code yX7_root cX7_root 4 (some .int) ∈ zTb := zmem 484 (by decide +kernel) rfl
theorem wq_982 : Cond.methodLink RL 42 yX8_root ∈ zTb := zmem 982 (by decide +kernel) rfl
theorem wq_983 : Cond.instanceMethod yX8_root ∈ zTb := zmem 983 (by decide +kernel) rfl
theorem wq_984 : Cond.selects yX8_root.cls yX8_root yX8_root ∈ zTb := zmem 984 (by decide +kernel) rfl
theorem wq_985 : Cond.code yX8_root cX8_root 4 (some .int) ∈ zTb := zmem 985 (by decide +kernel) rfl
theorem wq_497 : Cond.methodLink RL 43 yX7_pin ∈ zTb := zmem 497 (by decide +kernel) rfl
theorem wq_498 : Cond.instanceMethod yX7_pin ∈ zTb := zmem 498 (by decide +kernel) rfl
theorem wq_499 : Cond.selects yX7_pin.cls yX7_pin yX7_pin ∈ zTb := zmem 499 (by decide +kernel) rfl
theorem wq_500 : Cond.code yX7_pin cX7_pin 4 (some .int) ∈ zTb := zmem 500 (by decide +kernel) rfl
theorem wq_987 : Cond.methodLink RL 47 yX8_pin ∈ zTb := zmem 987 (by decide +kernel) rfl
theorem wq_988 : Cond.instanceMethod yX8_pin ∈ zTb := zmem 988 (by decide +kernel) rfl
theorem wq_989 : Cond.selects yX8_pin.cls yX8_pin yX8_pin ∈ zTb := zmem 989 (by decide +kernel) rfl
theorem wq_990 : Cond.code yX8_pin cX8_pin 4 (some .int) ∈ zTb := zmem 990 (by decide +kernel) rfl
theorem wq_502 : Cond.methodLink RL 48 yX7_feed ∈ zTb := zmem 502 (by decide +kernel) rfl
theorem wq_503 : Cond.instanceMethod yX7_feed ∈ zTb := zmem 503 (by decide +kernel) rfl
theorem wq_504 : Cond.selects yX7_feed.cls yX7_feed yX7_feed ∈ zTb := zmem 504 (by decide +kernel) rfl
theorem wq_505 : Cond.code yX7_feed cX7_feed 2 (some .int) ∈ zTb := zmem 505 (by decide +kernel) rfl
theorem wq_991 : Cond.methodLink RL 52 yX8_feed ∈ zTb := zmem 991 (by decide +kernel) rfl
theorem wq_992 : Cond.instanceMethod yX8_feed ∈ zTb := zmem 992 (by decide +kernel) rfl
theorem wq_993 : Cond.selects yX8_feed.cls yX8_feed yX8_feed ∈ zTb := zmem 993 (by decide +kernel) rfl
theorem wq_994 : Cond.code yX8_feed cX8_feed 2 (some .int) ∈ zTb := zmem 994 (by decide +kernel) rfl
theorem wq_510 : Cond.methodLink RL 53 yX7_build ∈ zTb := zmem 510 (by decide +kernel) rfl
theorem wq_511 : Cond.instanceMethod yX7_build ∈ zTb := zmem 511 (by decide +kernel) rfl
theorem wq_512 : Cond.selects yX7_build.cls yX7_build yX7_build ∈ zTb := zmem 512 (by decide +kernel) rfl
theorem wq_513 : Cond.code yX7_build cX7_build 3 (some .int) ∈ zTb := zmem 513 (by decide +kernel) rfl
theorem wq_996 : Cond.methodLink RL 56 yX8_build ∈ zTb := zmem 996 (by decide +kernel) rfl
theorem wq_997 : Cond.instanceMethod yX8_build ∈ zTb := zmem 997 (by decide +kernel) rfl
theorem wq_998 : Cond.selects yX8_build.cls yX8_build yX8_build ∈ zTb := zmem 998 (by decide +kernel) rfl
theorem wq_999 : Cond.code yX8_build cX8_build 7 (some .int) ∈ zTb := zmem 999 (by decide +kernel) rfl
theorem wq_558 : Cond.methodLink RL 57 yX7_begin ∈ zTb := zmem 558 (by decide +kernel) rfl
theorem wq_559 : Cond.instanceMethod yX7_begin ∈ zTb := zmem 559 (by decide +kernel) rfl
theorem wq_560 : Cond.selects yX7_begin.cls yX7_begin yX7_begin ∈ zTb := zmem 560 (by decide +kernel) rfl
theorem wq_561 : Cond.code yX7_begin cX7_begin 2 (some .int) ∈ zTb := zmem 561 (by decide +kernel) rfl
theorem wq_1030 : Cond.methodLink RL 60 yX8_begin ∈ zTb := zmem 1030 (by decide +kernel) rfl
theorem wq_1031 : Cond.instanceMethod yX8_begin ∈ zTb := zmem 1031 (by decide +kernel) rfl
theorem wq_1032 : Cond.selects yX8_begin.cls yX8_begin yX8_begin ∈ zTb := zmem 1032 (by decide +kernel) rfl
theorem wq_1033 : Cond.code yX8_begin cX8_begin 2 (some .int) ∈ zTb := zmem 1033 (by decide +kernel) rfl
theorem wq_569 : Cond.methodLink RL 61 yX7_step ∈ zTb := zmem 569 (by decide +kernel) rfl
theorem wq_570 : Cond.instanceMethod yX7_step ∈ zTb := zmem 570 (by decide +kernel) rfl
theorem wq_571 : Cond.selects yX7_step.cls yX7_step yX7_step ∈ zTb := zmem 571 (by decide +kernel) rfl
theorem wq_572 : Cond.code yX7_step cX7_step 2 (some .int) ∈ zTb := zmem 572 (by decide +kernel) rfl
theorem wq_1043 : Cond.methodLink RL 64 yX8_step ∈ zTb := zmem 1043 (by decide +kernel) rfl
theorem wq_1044 : Cond.instanceMethod yX8_step ∈ zTb := zmem 1044 (by decide +kernel) rfl
theorem wq_1045 : Cond.selects yX8_step.cls yX8_step yX8_step ∈ zTb := zmem 1045 (by decide +kernel) rfl
theorem wq_1046 : Cond.code yX8_step cX8_step 2 (some .int) ∈ zTb := zmem 1046 (by decide +kernel) rfl
theorem wq_609 : Cond.methodLink RL 65 yX7_leave ∈ zTb := zmem 609 (by decide +kernel) rfl
theorem wq_610 : Cond.instanceMethod yX7_leave ∈ zTb := zmem 610 (by decide +kernel) rfl
theorem wq_611 : Cond.selects yX7_leave.cls yX7_leave yX7_leave ∈ zTb := zmem 611 (by decide +kernel) rfl
theorem wq_612 : Cond.code yX7_leave cX7_leave 2 (some .int) ∈ zTb := zmem 612 (by decide +kernel) rfl
theorem wq_1067 : Cond.methodLink RL 69 yX8_leave ∈ zTb := zmem 1067 (by decide +kernel) rfl
theorem wq_1068 : Cond.instanceMethod yX8_leave ∈ zTb := zmem 1068 (by decide +kernel) rfl
theorem wq_1069 : Cond.selects yX8_leave.cls yX8_leave yX8_leave ∈ zTb := zmem 1069 (by decide +kernel) rfl
theorem wq_1070 : Cond.code yX8_leave cX8_leave 2 (some .int) ∈ zTb := zmem 1070 (by decide +kernel) rfl
theorem wq_621 : Cond.methodLink RL 70 yX7_sweep ∈ zTb := zmem 621 (by decide +kernel) rfl
theorem wq_622 : Cond.instanceMethod yX7_sweep ∈ zTb := zmem 622 (by decide +kernel) rfl
theorem wq_623 : Cond.selects yX7_sweep.cls yX7_sweep yX7_sweep ∈ zTb := zmem 623 (by decide +kernel) rfl
theorem wq_624 : Cond.code yX7_sweep cX7_sweep 2 (some .int) ∈ zTb := zmem 624 (by decide +kernel) rfl
theorem wq_1074 : Cond.methodLink RL 73 yX8_sweep ∈ zTb := zmem 1074 (by decide +kernel) rfl
theorem wq_1075 : Cond.instanceMethod yX8_sweep ∈ zTb := zmem 1075 (by decide +kernel) rfl
theorem wq_1076 : Cond.selects yX8_sweep.cls yX8_sweep yX8_sweep ∈ zTb := zmem 1076 (by decide +kernel) rfl
theorem wq_1077 : Cond.code yX8_sweep cX8_sweep 4 (some .int) ∈ zTb := zmem 1077 (by decide +kernel) rfl
theorem wq_631 : Cond.methodLink RL 74 yX7_told ∈ zTb := zmem 631 (by decide +kernel) rfl
theorem wq_632 : Cond.instanceMethod yX7_told ∈ zTb := zmem 632 (by decide +kernel) rfl
theorem wq_633 : Cond.selects yX7_told.cls yX7_told yX7_told ∈ zTb := zmem 633 (by decide +kernel) rfl
theorem wq_634 : Cond.code yX7_told cX7_told 2 (some .int) ∈ zTb := zmem 634 (by decide +kernel) rfl
theorem wq_1078 : Cond.methodLink RL 77 yX8_told_ ∈ zTb := zmem 1078 (by decide +kernel) rfl
theorem wq_1079 : Cond.instanceMethod yX8_told_ ∈ zTb := zmem 1079 (by decide +kernel) rfl
theorem wq_1080 : Cond.selects yX8_told_.cls yX8_told_ yX8_told_ ∈ zTb := zmem 1080 (by decide +kernel) rfl
theorem wq_1081 : Cond.code yX8_told_ cX8_told_ 3 (some .int) ∈ zTb := zmem 1081 (by decide +kernel) rfl
theorem wq_653 : Cond.methodLink RL 78 yX7_on ∈ zTb := zmem 653 (by decide +kernel) rfl
theorem wq_654 : Cond.instanceMethod yX7_on ∈ zTb := zmem 654 (by decide +kernel) rfl
theorem wq_655 : Cond.selects yX7_on.cls yX7_on yX7_on ∈ zTb := zmem 655 (by decide +kernel) rfl
theorem wq_656 : Cond.code yX7_on cX7_on 3 (some .int) ∈ zTb := zmem 656 (by decide +kernel) rfl
theorem wq_1097 : Cond.methodLink RL 81 yX8_on ∈ zTb := zmem 1097 (by decide +kernel) rfl
theorem wq_1098 : Cond.instanceMethod yX8_on ∈ zTb := zmem 1098 (by decide +kernel) rfl
theorem wq_1099 : Cond.selects yX8_on.cls yX8_on yX8_on ∈ zTb := zmem 1099 (by decide +kernel) rfl
theorem wq_1100 : Cond.code yX8_on cX8_on 4 (some .int) ∈ zTb := zmem 1100 (by decide +kernel) rfl
theorem wq_657 : Cond.methodLink RL 82 yX7_need ∈ zTb := zmem 657 (by decide +kernel) rfl
theorem wq_658 : Cond.instanceMethod yX7_need ∈ zTb := zmem 658 (by decide +kernel) rfl
theorem wq_659 : Cond.selects yX7_need.cls yX7_need yX7_need ∈ zTb := zmem 659 (by decide +kernel) rfl
theorem wq_660 : Cond.code yX7_need cX7_need 3 (some .int) ∈ zTb := zmem 660 (by decide +kernel) rfl
theorem wq_1103 : Cond.methodLink RL 85 yX8_need ∈ zTb := zmem 1103 (by decide +kernel) rfl
theorem wq_1104 : Cond.instanceMethod yX8_need ∈ zTb := zmem 1104 (by decide +kernel) rfl
theorem wq_1105 : Cond.selects yX8_need.cls yX8_need yX8_need ∈ zTb := zmem 1105 (by decide +kernel) rfl
theorem wq_1106 : Cond.code yX8_need cX8_need 3 (some .int) ∈ zTb := zmem 1106 (by decide +kernel) rfl
theorem wq_661 : Cond.methodLink RL 86 yX7_least ∈ zTb := zmem 661 (by decide +kernel) rfl
theorem wq_662 : Cond.instanceMethod yX7_least ∈ zTb := zmem 662 (by decide +kernel) rfl
theorem wq_663 : Cond.selects yX7_least.cls yX7_least yX7_least ∈ zTb := zmem 663 (by decide +kernel) rfl
theorem wq_664 : Cond.code yX7_least cX7_least 3 (some .int) ∈ zTb := zmem 664 (by decide +kernel) rfl
theorem wq_1111 : Cond.methodLink RL 89 yX8_least ∈ zTb := zmem 1111 (by decide +kernel) rfl
theorem wq_1112 : Cond.instanceMethod yX8_least ∈ zTb := zmem 1112 (by decide +kernel) rfl
theorem wq_1113 : Cond.selects yX8_least.cls yX8_least yX8_least ∈ zTb := zmem 1113 (by decide +kernel) rfl
theorem wq_1114 : Cond.code yX8_least cX8_least 3 (some .int) ∈ zTb := zmem 1114 (by decide +kernel) rfl
theorem wq_665 : Cond.methodLink RL 90 yX7_see ∈ zTb := zmem 665 (by decide +kernel) rfl
theorem wq_666 : Cond.instanceMethod yX7_see ∈ zTb := zmem 666 (by decide +kernel) rfl
theorem wq_667 : Cond.selects yX7_see.cls yX7_see yX7_see ∈ zTb := zmem 667 (by decide +kernel) rfl
theorem wq_668 : Cond.code yX7_see cX7_see 4 (some .int) ∈ zTb := zmem 668 (by decide +kernel) rfl
theorem wq_1115 : Cond.methodLink RL 94 yX8_see ∈ zTb := zmem 1115 (by decide +kernel) rfl
theorem wq_1116 : Cond.instanceMethod yX8_see ∈ zTb := zmem 1116 (by decide +kernel) rfl
theorem wq_1117 : Cond.selects yX8_see.cls yX8_see yX8_see ∈ zTb := zmem 1117 (by decide +kernel) rfl
theorem wq_1118 : Cond.code yX8_see cX8_see 5 (some .int) ∈ zTb := zmem 1118 (by decide +kernel) rfl
theorem wq_677 : Cond.methodLink RL 95 yX7_fits ∈ zTb := zmem 677 (by decide +kernel) rfl
theorem wq_678 : Cond.instanceMethod yX7_fits ∈ zTb := zmem 678 (by decide +kernel) rfl
theorem wq_679 : Cond.selects yX7_fits.cls yX7_fits yX7_fits ∈ zTb := zmem 679 (by decide +kernel) rfl
theorem wq_680 : Cond.code yX7_fits cX7_fits 4 (some .int) ∈ zTb := zmem 680 (by decide +kernel) rfl
theorem wq_1120 : Cond.methodLink RL 98 yX8_fits ∈ zTb := zmem 1120 (by decide +kernel) rfl
theorem wq_1121 : Cond.instanceMethod yX8_fits ∈ zTb := zmem 1121 (by decide +kernel) rfl
theorem wq_1122 : Cond.selects yX8_fits.cls yX8_fits yX8_fits ∈ zTb := zmem 1122 (by decide +kernel) rfl
theorem wq_1123 : Cond.code yX8_fits cX8_fits 4 (some .int) ∈ zTb := zmem 1123 (by decide +kernel) rfl
theorem wq_693 : Cond.methodLink RL 99 yX7_can ∈ zTb := zmem 693 (by decide +kernel) rfl
theorem wq_694 : Cond.instanceMethod yX7_can ∈ zTb := zmem 694 (by decide +kernel) rfl
theorem wq_695 : Cond.selects yX7_can.cls yX7_can yX7_can ∈ zTb := zmem 695 (by decide +kernel) rfl
theorem wq_696 : Cond.code yX7_can cX7_can 7 (some .int) ∈ zTb := zmem 696 (by decide +kernel) rfl
theorem wq_1128 : Cond.methodLink RL 102 yX8_can ∈ zTb := zmem 1128 (by decide +kernel) rfl
theorem wq_1129 : Cond.instanceMethod yX8_can ∈ zTb := zmem 1129 (by decide +kernel) rfl
theorem wq_1130 : Cond.selects yX8_can.cls yX8_can yX8_can ∈ zTb := zmem 1130 (by decide +kernel) rfl
theorem wq_1131 : Cond.code yX8_can cX8_can 7 (some .int) ∈ zTb := zmem 1131 (by decide +kernel) rfl
theorem wq_697 : Cond.methodLink RL 103 yX7_odds ∈ zTb := zmem 697 (by decide +kernel) rfl
theorem wq_698 : Cond.instanceMethod yX7_odds ∈ zTb := zmem 698 (by decide +kernel) rfl
theorem wq_699 : Cond.selects yX7_odds.cls yX7_odds yX7_odds ∈ zTb := zmem 699 (by decide +kernel) rfl
theorem wq_700 : Cond.code yX7_odds cX7_odds 8 (some .long) ∈ zTb := zmem 700 (by decide +kernel) rfl
theorem wq_1132 : Cond.methodLink RL 107 yX8_odds ∈ zTb := zmem 1132 (by decide +kernel) rfl
theorem wq_1133 : Cond.instanceMethod yX8_odds ∈ zTb := zmem 1133 (by decide +kernel) rfl
theorem wq_1134 : Cond.selects yX8_odds.cls yX8_odds yX8_odds ∈ zTb := zmem 1134 (by decide +kernel) rfl
theorem wq_1135 : Cond.code yX8_odds cX8_odds 9 (some .long) ∈ zTb := zmem 1135 (by decide +kernel) rfl
theorem wq_707 : Cond.methodLink RL 108 yX7_mean ∈ zTb := zmem 707 (by decide +kernel) rfl
theorem wq_708 : Cond.instanceMethod yX7_mean ∈ zTb := zmem 708 (by decide +kernel) rfl
theorem wq_709 : Cond.selects yX7_mean.cls yX7_mean yX7_mean ∈ zTb := zmem 709 (by decide +kernel) rfl
theorem wq_710 : Cond.code yX7_mean cX7_mean 4 (some .long) ∈ zTb := zmem 710 (by decide +kernel) rfl
theorem wq_1140 : Cond.methodLink RL 112 yX8_mean ∈ zTb := zmem 1140 (by decide +kernel) rfl
theorem wq_1141 : Cond.instanceMethod yX8_mean ∈ zTb := zmem 1141 (by decide +kernel) rfl
theorem wq_1142 : Cond.selects yX8_mean.cls yX8_mean yX8_mean ∈ zTb := zmem 1142 (by decide +kernel) rfl
theorem wq_1143 : Cond.code yX8_mean cX8_mean 6 (some .long) ∈ zTb := zmem 1143 (by decide +kernel) rfl
theorem wq_712 : Cond.methodLink RL 113 yX7_plan ∈ zTb := zmem 712 (by decide +kernel) rfl
theorem wq_713 : Cond.instanceMethod yX7_plan ∈ zTb := zmem 713 (by decide +kernel) rfl
theorem wq_714 : Cond.selects yX7_plan.cls yX7_plan yX7_plan ∈ zTb := zmem 714 (by decide +kernel) rfl
theorem wq_715 : Cond.code yX7_plan cX7_plan 3 (some .int) ∈ zTb := zmem 715 (by decide +kernel) rfl
theorem wq_1144 : Cond.methodLink RL 116 yX8_plan ∈ zTb := zmem 1144 (by decide +kernel) rfl
theorem wq_1145 : Cond.instanceMethod yX8_plan ∈ zTb := zmem 1145 (by decide +kernel) rfl
theorem wq_1146 : Cond.selects yX8_plan.cls yX8_plan yX8_plan ∈ zTb := zmem 1146 (by decide +kernel) rfl
theorem wq_1147 : Cond.code yX8_plan cX8_plan 4 (some .int) ∈ zTb := zmem 1147 (by decide +kernel) rfl
theorem wq_720 : Cond.methodLink RL 117 yX7_ends ∈ zTb := zmem 720 (by decide +kernel) rfl
theorem wq_721 : Cond.instanceMethod yX7_ends ∈ zTb := zmem 721 (by decide +kernel) rfl
theorem wq_722 : Cond.selects yX7_ends.cls yX7_ends yX7_ends ∈ zTb := zmem 722 (by decide +kernel) rfl
theorem wq_723 : Cond.code yX7_ends cX7_ends 3 (some .int) ∈ zTb := zmem 723 (by decide +kernel) rfl
theorem wq_1152 : Cond.methodLink RL 120 yX8_ends ∈ zTb := zmem 1152 (by decide +kernel) rfl
theorem wq_1153 : Cond.instanceMethod yX8_ends ∈ zTb := zmem 1153 (by decide +kernel) rfl
theorem wq_1154 : Cond.selects yX8_ends.cls yX8_ends yX8_ends ∈ zTb := zmem 1154 (by decide +kernel) rfl
theorem wq_1155 : Cond.code yX8_ends cX8_ends 4 (some .int) ∈ zTb := zmem 1155 (by decide +kernel) rfl
theorem wq_724 : Cond.methodLink RL 121 yX7_book ∈ zTb := zmem 724 (by decide +kernel) rfl
theorem wq_725 : Cond.instanceMethod yX7_book ∈ zTb := zmem 725 (by decide +kernel) rfl
theorem wq_726 : Cond.selects yX7_book.cls yX7_book yX7_book ∈ zTb := zmem 726 (by decide +kernel) rfl
theorem wq_727 : Cond.code yX7_book cX7_book 4 (some .int) ∈ zTb := zmem 727 (by decide +kernel) rfl
theorem wq_1156 : Cond.methodLink RL 124 yX8_book ∈ zTb := zmem 1156 (by decide +kernel) rfl
theorem wq_1157 : Cond.instanceMethod yX8_book ∈ zTb := zmem 1157 (by decide +kernel) rfl
theorem wq_1158 : Cond.selects yX8_book.cls yX8_book yX8_book ∈ zTb := zmem 1158 (by decide +kernel) rfl
theorem wq_1159 : Cond.code yX8_book cX8_book 5 (some .int) ∈ zTb := zmem 1159 (by decide +kernel) rfl
theorem wq_728 : Cond.methodLink RL 125 yX7_looked ∈ zTb := zmem 728 (by decide +kernel) rfl
theorem wq_729 : Cond.instanceMethod yX7_looked ∈ zTb := zmem 729 (by decide +kernel) rfl
theorem wq_730 : Cond.selects yX7_looked.cls yX7_looked yX7_looked ∈ zTb := zmem 730 (by decide +kernel) rfl
theorem wq_731 : Cond.code yX7_looked cX7_looked 4 (some .int) ∈ zTb := zmem 731 (by decide +kernel) rfl
theorem wq_1160 : Cond.methodLink RL 128 yX8_looked ∈ zTb := zmem 1160 (by decide +kernel) rfl
theorem wq_1161 : Cond.instanceMethod yX8_looked ∈ zTb := zmem 1161 (by decide +kernel) rfl
theorem wq_1162 : Cond.selects yX8_looked.cls yX8_looked yX8_looked ∈ zTb := zmem 1162 (by decide +kernel) rfl
theorem wq_1163 : Cond.code yX8_looked cX8_looked 3 (some .int) ∈ zTb := zmem 1163 (by decide +kernel) rfl
theorem wq_732 : Cond.methodLink RL 129 yX7_judge ∈ zTb := zmem 732 (by decide +kernel) rfl
theorem wq_733 : Cond.instanceMethod yX7_judge ∈ zTb := zmem 733 (by decide +kernel) rfl
theorem wq_734 : Cond.selects yX7_judge.cls yX7_judge yX7_judge ∈ zTb := zmem 734 (by decide +kernel) rfl
theorem wq_735 : Cond.code yX7_judge cX7_judge 5 (some .int) ∈ zTb := zmem 735 (by decide +kernel) rfl
theorem wq_1164 : Cond.methodLink RL 132 yX8_judge ∈ zTb := zmem 1164 (by decide +kernel) rfl
theorem wq_1165 : Cond.instanceMethod yX8_judge ∈ zTb := zmem 1165 (by decide +kernel) rfl
theorem wq_1166 : Cond.selects yX8_judge.cls yX8_judge yX8_judge ∈ zTb := zmem 1166 (by decide +kernel) rfl
theorem wq_1167 : Cond.code yX8_judge cX8_judge 4 (some .int) ∈ zTb := zmem 1167 (by decide +kernel) rfl
theorem wq_753 : Cond.methodLink RL 133 yX7_image ∈ zTb := zmem 753 (by decide +kernel) rfl
theorem wq_754 : Cond.instanceMethod yX7_image ∈ zTb := zmem 754 (by decide +kernel) rfl
theorem wq_755 : Cond.selects yX7_image.cls yX7_image yX7_image ∈ zTb := zmem 755 (by decide +kernel) rfl
theorem wq_756 : Cond.code yX7_image cX7_image 1 (some .int) ∈ zTb := zmem 756 (by decide +kernel) rfl
theorem wq_1169 : Cond.methodLink RL 136 yX8_image ∈ zTb := zmem 1169 (by decide +kernel) rfl
theorem wq_1170 : Cond.instanceMethod yX8_image ∈ zTb := zmem 1170 (by decide +kernel) rfl
theorem wq_1171 : Cond.selects yX8_image.cls yX8_image yX8_image ∈ zTb := zmem 1171 (by decide +kernel) rfl
theorem wq_1172 : Cond.code yX8_image cX8_image 1 (some .int) ∈ zTb := zmem 1172 (by decide +kernel) rfl
theorem wq_768 : Cond.methodLink RL 137 yX7_undo ∈ zTb := zmem 768 (by decide +kernel) rfl
theorem wq_769 : Cond.instanceMethod yX7_undo ∈ zTb := zmem 769 (by decide +kernel) rfl
theorem wq_770 : Cond.selects yX7_undo.cls yX7_undo yX7_undo ∈ zTb := zmem 770 (by decide +kernel) rfl
theorem wq_771 : Cond.code yX7_undo cX7_undo 1 (some .int) ∈ zTb := zmem 771 (by decide +kernel) rfl
theorem wq_1173 : Cond.methodLink RL 140 yX8_undo ∈ zTb := zmem 1173 (by decide +kernel) rfl
theorem wq_1174 : Cond.instanceMethod yX8_undo ∈ zTb := zmem 1174 (by decide +kernel) rfl
theorem wq_1175 : Cond.selects yX8_undo.cls yX8_undo yX8_undo ∈ zTb := zmem 1175 (by decide +kernel) rfl
theorem wq_1176 : Cond.code yX8_undo cX8_undo 1 (some .int) ∈ zTb := zmem 1176 (by decide +kernel) rfl
theorem wq_772 : Cond.methodLink RL 141 yX7_taken ∈ zTb := zmem 772 (by decide +kernel) rfl
theorem wq_773 : Cond.instanceMethod yX7_taken ∈ zTb := zmem 773 (by decide +kernel) rfl
theorem wq_774 : Cond.selects yX7_taken.cls yX7_taken yX7_taken ∈ zTb := zmem 774 (by decide +kernel) rfl
theorem wq_775 : Cond.code yX7_taken cX7_taken 3 (some .int) ∈ zTb := zmem 775 (by decide +kernel) rfl
theorem wq_1177 : Cond.methodLink RL 144 yX8_taken ∈ zTb := zmem 1177 (by decide +kernel) rfl
theorem wq_1178 : Cond.instanceMethod yX8_taken ∈ zTb := zmem 1178 (by decide +kernel) rfl
theorem wq_1179 : Cond.selects yX8_taken.cls yX8_taken yX8_taken ∈ zTb := zmem 1179 (by decide +kernel) rfl
theorem wq_1180 : Cond.code yX8_taken cX8_taken 5 (some .int) ∈ zTb := zmem 1180 (by decide +kernel) rfl
theorem wq_781 : Cond.methodLink RL 145 yX7_count ∈ zTb := zmem 781 (by decide +kernel) rfl
theorem wq_782 : Cond.instanceMethod yX7_count ∈ zTb := zmem 782 (by decide +kernel) rfl
theorem wq_783 : Cond.selects yX7_count.cls yX7_count yX7_count ∈ zTb := zmem 783 (by decide +kernel) rfl
theorem wq_784 : Cond.code yX7_count cX7_count 2 (some .int) ∈ zTb := zmem 784 (by decide +kernel) rfl
theorem wq_1181 : Cond.methodLink RL 148 yX8_count ∈ zTb := zmem 1181 (by decide +kernel) rfl
theorem wq_1182 : Cond.instanceMethod yX8_count ∈ zTb := zmem 1182 (by decide +kernel) rfl
theorem wq_1183 : Cond.selects yX8_count.cls yX8_count yX8_count ∈ zTb := zmem 1183 (by decide +kernel) rfl
theorem wq_1184 : Cond.code yX8_count cX8_count 2 (some .int) ∈ zTb := zmem 1184 (by decide +kernel) rfl
theorem wq_785 : Cond.methodLink RL 149 yX7_tape ∈ zTb := zmem 785 (by decide +kernel) rfl
theorem wq_786 : Cond.instanceMethod yX7_tape ∈ zTb := zmem 786 (by decide +kernel) rfl
theorem wq_787 : Cond.selects yX7_tape.cls yX7_tape yX7_tape ∈ zTb := zmem 787 (by decide +kernel) rfl
theorem wq_788 : Cond.code yX7_tape cX7_tape 4 (some .int) ∈ zTb := zmem 788 (by decide +kernel) rfl
theorem wq_1185 : Cond.methodLink RL 152 yX8_tape ∈ zTb := zmem 1185 (by decide +kernel) rfl
theorem wq_1186 : Cond.instanceMethod yX8_tape ∈ zTb := zmem 1186 (by decide +kernel) rfl
theorem wq_1187 : Cond.selects yX8_tape.cls yX8_tape yX8_tape ∈ zTb := zmem 1187 (by decide +kernel) rfl
theorem wq_1188 : Cond.code yX8_tape cX8_tape 5 (some .int) ∈ zTb := zmem 1188 (by decide +kernel) rfl
theorem wq_1205 : Cond.constantLong RL 153 (4294967295) ∈ zTb := zmem 1205 (by decide +kernel) rfl
theorem wq_799 : Cond.methodLink RL 155 yX7_item ∈ zTb := zmem 799 (by decide +kernel) rfl
theorem wq_800 : Cond.instanceMethod yX7_item ∈ zTb := zmem 800 (by decide +kernel) rfl
theorem wq_801 : Cond.selects yX7_item.cls yX7_item yX7_item ∈ zTb := zmem 801 (by decide +kernel) rfl
theorem wq_802 : Cond.code yX7_item cX7_item 5 (some .int) ∈ zTb := zmem 802 (by decide +kernel) rfl
theorem wq_1190 : Cond.methodLink RL 159 yX8_item ∈ zTb := zmem 1190 (by decide +kernel) rfl
theorem wq_1191 : Cond.instanceMethod yX8_item ∈ zTb := zmem 1191 (by decide +kernel) rfl
theorem wq_1192 : Cond.selects yX8_item.cls yX8_item yX8_item ∈ zTb := zmem 1192 (by decide +kernel) rfl
theorem wq_1193 : Cond.code yX8_item cX8_item 5 (some .int) ∈ zTb := zmem 1193 (by decide +kernel) rfl
theorem wq_810 : Cond.methodLink RL 160 yX7_read ∈ zTb := zmem 810 (by decide +kernel) rfl
theorem wq_811 : Cond.instanceMethod yX7_read ∈ zTb := zmem 811 (by decide +kernel) rfl
theorem wq_812 : Cond.selects yX7_read.cls yX7_read yX7_read ∈ zTb := zmem 812 (by decide +kernel) rfl
theorem wq_813 : Cond.code yX7_read cX7_read 3 (some .long) ∈ zTb := zmem 813 (by decide +kernel) rfl
theorem wq_1197 : Cond.methodLink RL 163 yX8_read ∈ zTb := zmem 1197 (by decide +kernel) rfl
theorem wq_1198 : Cond.instanceMethod yX8_read ∈ zTb := zmem 1198 (by decide +kernel) rfl
theorem wq_1199 : Cond.selects yX8_read.cls yX8_read yX8_read ∈ zTb := zmem 1199 (by decide +kernel) rfl
theorem wq_1200 : Cond.code yX8_read cX8_read 3 (some .long) ∈ zTb := zmem 1200 (by decide +kernel) rfl
theorem wq_814 : Cond.methodLink RL 164 yX7_shift ∈ zTb := zmem 814 (by decide +kernel) rfl
theorem wq_815 : Cond.instanceMethod yX7_shift ∈ zTb := zmem 815 (by decide +kernel) rfl
theorem wq_816 : Cond.selects yX7_shift.cls yX7_shift yX7_shift ∈ zTb := zmem 816 (by decide +kernel) rfl
theorem wq_817 : Cond.code yX7_shift cX7_shift 6 (some .int) ∈ zTb := zmem 817 (by decide +kernel) rfl
theorem wq_1201 : Cond.methodLink RL 168 yX8_shift ∈ zTb := zmem 1201 (by decide +kernel) rfl
theorem wq_1202 : Cond.instanceMethod yX8_shift ∈ zTb := zmem 1202 (by decide +kernel) rfl
theorem wq_1203 : Cond.selects yX8_shift.cls yX8_shift yX8_shift ∈ zTb := zmem 1203 (by decide +kernel) rfl
theorem wq_1204 : Cond.code yX8_shift cX8_shift 8 (some .int) ∈ zTb := zmem 1204 (by decide +kernel) rfl
theorem wi_7 : Cond.initialized RX7 ∈ zTb := zmem 38 (by decide +kernel) rfl
theorem wi_8 : Cond.initialized RX8 ∈ zTb := zmem 47 (by decide +kernel) rfl
theorem cv_L_13 : zCv RL 13 7 yX7_cell cX7_cell 4 (some .int) 3 := ⟨TX7, znf 7, rfl, by decide, zwsV wq_295 wq_296 wq_297 wi_7 wq_298, ⟨by decide +kernel, by decide +kernel, by decide +kernel⟩⟩
theorem cv_L_17 : zCv RL 17 8 yX8_cell cX8_cell 4 (some .int) 3 := ⟨TX8, znf 8, rfl, by decide, zwsV wq_895 wq_896 wq_897 wi_8 wq_898, ⟨by decide +kernel, by decide +kernel, by decide +kernel⟩⟩
theorem cv_L_18 : zCv RL 18 7 yX7_of cX7_of 5 (some .int) 2 := ⟨TX7, znf 7, rfl, by decide, zwsV wq_319 wq_320 wq_321 wi_7 wq_322, ⟨by decide +kernel, by decide +kernel, by decide +kernel⟩⟩
theorem cv_L_22 : zCv RL 22 8 yX8_of cX8_of 3 (some .int) 2 := ⟨TX8, znf 8, rfl, by decide, zwsV wq_910 wq_911 wq_912 wi_8 wq_913, ⟨by decide +kernel, by decide +kernel, by decide +kernel⟩⟩
theorem cv_L_23 : zCv RL 23 7 yX7_field cX7_field 3 (some .int) 2 := ⟨TX7, znf 7, rfl, by decide, zwsV wq_427 wq_428 wq_429 wi_7 wq_430, ⟨by decide +kernel, by decide +kernel, by decide +kernel⟩⟩
theorem cv_L_26 : zCv RL 26 8 yX8_field cX8_field 3 (some .int) 2 := ⟨TX8, znf 8, rfl, by decide, zwsV wq_962 wq_963 wq_964 wi_8 wq_965, ⟨by decide +kernel, by decide +kernel, by decide +kernel⟩⟩
theorem cv_L_27 : zCv RL 27 7 yX7_raw cX7_raw 3 (some .int) 2 := ⟨TX7, znf 7, rfl, by decide, zwsV wq_433 wq_434 wq_435 wi_7 wq_436, ⟨by decide +kernel, by decide +kernel, by decide +kernel⟩⟩
theorem cv_L_30 : zCv RL 30 8 yX8_raw cX8_raw 4 (some .int) 2 := ⟨TX8, znf 8, rfl, by decide, zwsV wq_966 wq_967 wq_968 wi_8 wq_969, ⟨by decide +kernel, by decide +kernel, by decide +kernel⟩⟩
theorem cv_L_31 : zCv RL 31 7 yX7_hold cX7_hold 5 (some .int) 3 := ⟨TX7, znf 7, rfl, by decide, zwsV wq_458 wq_459 wq_460 wi_7 wq_461, ⟨by decide +kernel, by decide +kernel, by decide +kernel⟩⟩
theorem cv_L_34 : zCv RL 34 8 yX8_hold cX8_hold 5 (some .int) 3 := ⟨TX8, znf 8, rfl, by decide, zwsV wq_974 wq_975 wq_976 wi_8 wq_977, ⟨by decide +kernel, by decide +kernel, by decide +kernel⟩⟩
theorem cv_L_35 : zCv RL 35 7 yX7_tag cX7_tag 4 (some .int) 2 := ⟨TX7, znf 7, rfl, by decide, zwsV wq_473 wq_474 wq_475 wi_7 wq_476, ⟨by decide +kernel, by decide +kernel, by decide +kernel⟩⟩
theorem cv_L_38 : zCv RL 38 8 yX8_tag cX8_tag 4 (some .int) 2 := ⟨TX8, znf 8, rfl, by decide, zwsV wq_978 wq_979 wq_980 wi_8 wq_981, ⟨by decide +kernel, by decide +kernel, by decide +kernel⟩⟩
theorem cv_L_39 : zCv RL 39 7 yX7_root cX7_root 4 (some .int) 2 := ⟨TX7, znf 7, rfl, by decide, zwsV wq_481 wq_482 wq_483 wi_7 wq_484, ⟨by decide +kernel, by decide +kernel, by decide +kernel⟩⟩
theorem cv_L_42 : zCv RL 42 8 yX8_root cX8_root 4 (some .int) 2 := ⟨TX8, znf 8, rfl, by decide, zwsV wq_982 wq_983 wq_984 wi_8 wq_985, ⟨by decide +kernel, by decide +kernel, by decide +kernel⟩⟩
theorem cv_L_43 : zCv RL 43 7 yX7_pin cX7_pin 4 (some .int) 2 := ⟨TX7, znf 7, rfl, by decide, zwsV wq_497 wq_498 wq_499 wi_7 wq_500, ⟨by decide +kernel, by decide +kernel, by decide +kernel⟩⟩
theorem cv_L_47 : zCv RL 47 8 yX8_pin cX8_pin 4 (some .int) 2 := ⟨TX8, znf 8, rfl, by decide, zwsV wq_987 wq_988 wq_989 wi_8 wq_990, ⟨by decide +kernel, by decide +kernel, by decide +kernel⟩⟩
theorem cv_L_48 : zCv RL 48 7 yX7_feed cX7_feed 2 (some .int) 1 := ⟨TX7, znf 7, rfl, by decide, zwsV wq_502 wq_503 wq_504 wi_7 wq_505, ⟨by decide +kernel, by decide +kernel, by decide +kernel⟩⟩
theorem cv_L_52 : zCv RL 52 8 yX8_feed cX8_feed 2 (some .int) 1 := ⟨TX8, znf 8, rfl, by decide, zwsV wq_991 wq_992 wq_993 wi_8 wq_994, ⟨by decide +kernel, by decide +kernel, by decide +kernel⟩⟩
theorem cv_L_53 : zCv RL 53 7 yX7_build cX7_build 3 (some .int) 1 := ⟨TX7, znf 7, rfl, by decide, zwsV wq_510 wq_511 wq_512 wi_7 wq_513, ⟨by decide +kernel, by decide +kernel, by decide +kernel⟩⟩
theorem cv_L_56 : zCv RL 56 8 yX8_build cX8_build 7 (some .int) 1 := ⟨TX8, znf 8, rfl, by decide, zwsV wq_996 wq_997 wq_998 wi_8 wq_999, ⟨by decide +kernel, by decide +kernel, by decide +kernel⟩⟩
theorem cv_L_57 : zCv RL 57 7 yX7_begin cX7_begin 2 (some .int) 1 := ⟨TX7, znf 7, rfl, by decide, zwsV wq_558 wq_559 wq_560 wi_7 wq_561, ⟨by decide +kernel, by decide +kernel, by decide +kernel⟩⟩
theorem cv_L_60 : zCv RL 60 8 yX8_begin cX8_begin 2 (some .int) 1 := ⟨TX8, znf 8, rfl, by decide, zwsV wq_1030 wq_1031 wq_1032 wi_8 wq_1033, ⟨by decide +kernel, by decide +kernel, by decide +kernel⟩⟩
theorem cv_L_61 : zCv RL 61 7 yX7_step cX7_step 2 (some .int) 1 := ⟨TX7, znf 7, rfl, by decide, zwsV wq_569 wq_570 wq_571 wi_7 wq_572, ⟨by decide +kernel, by decide +kernel, by decide +kernel⟩⟩
theorem cv_L_64 : zCv RL 64 8 yX8_step cX8_step 2 (some .int) 1 := ⟨TX8, znf 8, rfl, by decide, zwsV wq_1043 wq_1044 wq_1045 wi_8 wq_1046, ⟨by decide +kernel, by decide +kernel, by decide +kernel⟩⟩
theorem cv_L_65 : zCv RL 65 7 yX7_leave cX7_leave 2 (some .int) 0 := ⟨TX7, znf 7, rfl, by decide, zwsV wq_609 wq_610 wq_611 wi_7 wq_612, ⟨by decide +kernel, by decide +kernel, by decide +kernel⟩⟩
theorem cv_L_69 : zCv RL 69 8 yX8_leave cX8_leave 2 (some .int) 0 := ⟨TX8, znf 8, rfl, by decide, zwsV wq_1067 wq_1068 wq_1069 wi_8 wq_1070, ⟨by decide +kernel, by decide +kernel, by decide +kernel⟩⟩
theorem cv_L_70 : zCv RL 70 7 yX7_sweep cX7_sweep 2 (some .int) 0 := ⟨TX7, znf 7, rfl, by decide, zwsV wq_621 wq_622 wq_623 wi_7 wq_624, ⟨by decide +kernel, by decide +kernel, by decide +kernel⟩⟩
theorem cv_L_73 : zCv RL 73 8 yX8_sweep cX8_sweep 4 (some .int) 0 := ⟨TX8, znf 8, rfl, by decide, zwsV wq_1074 wq_1075 wq_1076 wi_8 wq_1077, ⟨by decide +kernel, by decide +kernel, by decide +kernel⟩⟩
theorem cv_L_74 : zCv RL 74 7 yX7_told cX7_told 2 (some .int) 1 := ⟨TX7, znf 7, rfl, by decide, zwsV wq_631 wq_632 wq_633 wi_7 wq_634, ⟨by decide +kernel, by decide +kernel, by decide +kernel⟩⟩
theorem cv_L_77 : zCv RL 77 8 yX8_told_ cX8_told_ 3 (some .int) 1 := ⟨TX8, znf 8, rfl, by decide, zwsV wq_1078 wq_1079 wq_1080 wi_8 wq_1081, ⟨by decide +kernel, by decide +kernel, by decide +kernel⟩⟩
theorem cv_L_78 : zCv RL 78 7 yX7_on cX7_on 3 (some .int) 2 := ⟨TX7, znf 7, rfl, by decide, zwsV wq_653 wq_654 wq_655 wi_7 wq_656, ⟨by decide +kernel, by decide +kernel, by decide +kernel⟩⟩
theorem cv_L_81 : zCv RL 81 8 yX8_on cX8_on 4 (some .int) 2 := ⟨TX8, znf 8, rfl, by decide, zwsV wq_1097 wq_1098 wq_1099 wi_8 wq_1100, ⟨by decide +kernel, by decide +kernel, by decide +kernel⟩⟩
theorem cv_L_82 : zCv RL 82 7 yX7_need cX7_need 3 (some .int) 2 := ⟨TX7, znf 7, rfl, by decide, zwsV wq_657 wq_658 wq_659 wi_7 wq_660, ⟨by decide +kernel, by decide +kernel, by decide +kernel⟩⟩
theorem cv_L_85 : zCv RL 85 8 yX8_need cX8_need 3 (some .int) 2 := ⟨TX8, znf 8, rfl, by decide, zwsV wq_1103 wq_1104 wq_1105 wi_8 wq_1106, ⟨by decide +kernel, by decide +kernel, by decide +kernel⟩⟩
theorem cv_L_86 : zCv RL 86 7 yX7_least cX7_least 3 (some .int) 1 := ⟨TX7, znf 7, rfl, by decide, zwsV wq_661 wq_662 wq_663 wi_7 wq_664, ⟨by decide +kernel, by decide +kernel, by decide +kernel⟩⟩
theorem cv_L_89 : zCv RL 89 8 yX8_least cX8_least 3 (some .int) 1 := ⟨TX8, znf 8, rfl, by decide, zwsV wq_1111 wq_1112 wq_1113 wi_8 wq_1114, ⟨by decide +kernel, by decide +kernel, by decide +kernel⟩⟩
theorem cv_L_90 : zCv RL 90 7 yX7_see cX7_see 4 (some .int) 3 := ⟨TX7, znf 7, rfl, by decide, zwsV wq_665 wq_666 wq_667 wi_7 wq_668, ⟨by decide +kernel, by decide +kernel, by decide +kernel⟩⟩
theorem cv_L_94 : zCv RL 94 8 yX8_see cX8_see 5 (some .int) 3 := ⟨TX8, znf 8, rfl, by decide, zwsV wq_1115 wq_1116 wq_1117 wi_8 wq_1118, ⟨by decide +kernel, by decide +kernel, by decide +kernel⟩⟩
theorem cv_L_95 : zCv RL 95 7 yX7_fits cX7_fits 4 (some .int) 1 := ⟨TX7, znf 7, rfl, by decide, zwsV wq_677 wq_678 wq_679 wi_7 wq_680, ⟨by decide +kernel, by decide +kernel, by decide +kernel⟩⟩
theorem cv_L_98 : zCv RL 98 8 yX8_fits cX8_fits 4 (some .int) 1 := ⟨TX8, znf 8, rfl, by decide, zwsV wq_1120 wq_1121 wq_1122 wi_8 wq_1123, ⟨by decide +kernel, by decide +kernel, by decide +kernel⟩⟩
theorem cv_L_99 : zCv RL 99 7 yX7_can cX7_can 7 (some .int) 3 := ⟨TX7, znf 7, rfl, by decide, zwsV wq_693 wq_694 wq_695 wi_7 wq_696, ⟨by decide +kernel, by decide +kernel, by decide +kernel⟩⟩
theorem cv_L_102 : zCv RL 102 8 yX8_can cX8_can 7 (some .int) 3 := ⟨TX8, znf 8, rfl, by decide, zwsV wq_1128 wq_1129 wq_1130 wi_8 wq_1131, ⟨by decide +kernel, by decide +kernel, by decide +kernel⟩⟩
theorem cv_L_103 : zCv RL 103 7 yX7_odds cX7_odds 8 (some .long) 2 := ⟨TX7, znf 7, rfl, by decide, zwsV wq_697 wq_698 wq_699 wi_7 wq_700, ⟨by decide +kernel, by decide +kernel, by decide +kernel⟩⟩
theorem cv_L_107 : zCv RL 107 8 yX8_odds cX8_odds 9 (some .long) 2 := ⟨TX8, znf 8, rfl, by decide, zwsV wq_1132 wq_1133 wq_1134 wi_8 wq_1135, ⟨by decide +kernel, by decide +kernel, by decide +kernel⟩⟩
theorem cv_L_108 : zCv RL 108 7 yX7_mean cX7_mean 4 (some .long) 1 := ⟨TX7, znf 7, rfl, by decide, zwsV wq_707 wq_708 wq_709 wi_7 wq_710, ⟨by decide +kernel, by decide +kernel, by decide +kernel⟩⟩
theorem cv_L_112 : zCv RL 112 8 yX8_mean cX8_mean 6 (some .long) 1 := ⟨TX8, znf 8, rfl, by decide, zwsV wq_1140 wq_1141 wq_1142 wi_8 wq_1143, ⟨by decide +kernel, by decide +kernel, by decide +kernel⟩⟩
theorem cv_L_113 : zCv RL 113 7 yX7_plan cX7_plan 3 (some .int) 2 := ⟨TX7, znf 7, rfl, by decide, zwsV wq_712 wq_713 wq_714 wi_7 wq_715, ⟨by decide +kernel, by decide +kernel, by decide +kernel⟩⟩
theorem cv_L_116 : zCv RL 116 8 yX8_plan cX8_plan 4 (some .int) 2 := ⟨TX8, znf 8, rfl, by decide, zwsV wq_1144 wq_1145 wq_1146 wi_8 wq_1147, ⟨by decide +kernel, by decide +kernel, by decide +kernel⟩⟩
theorem cv_L_117 : zCv RL 117 7 yX7_ends cX7_ends 3 (some .int) 0 := ⟨TX7, znf 7, rfl, by decide, zwsV wq_720 wq_721 wq_722 wi_7 wq_723, ⟨by decide +kernel, by decide +kernel, by decide +kernel⟩⟩
theorem cv_L_120 : zCv RL 120 8 yX8_ends cX8_ends 4 (some .int) 0 := ⟨TX8, znf 8, rfl, by decide, zwsV wq_1152 wq_1153 wq_1154 wi_8 wq_1155, ⟨by decide +kernel, by decide +kernel, by decide +kernel⟩⟩
theorem cv_L_121 : zCv RL 121 7 yX7_book cX7_book 4 (some .int) 3 := ⟨TX7, znf 7, rfl, by decide, zwsV wq_724 wq_725 wq_726 wi_7 wq_727, ⟨by decide +kernel, by decide +kernel, by decide +kernel⟩⟩
theorem cv_L_124 : zCv RL 124 8 yX8_book cX8_book 5 (some .int) 3 := ⟨TX8, znf 8, rfl, by decide, zwsV wq_1156 wq_1157 wq_1158 wi_8 wq_1159, ⟨by decide +kernel, by decide +kernel, by decide +kernel⟩⟩
theorem cv_L_125 : zCv RL 125 7 yX7_looked cX7_looked 4 (some .int) 0 := ⟨TX7, znf 7, rfl, by decide, zwsV wq_728 wq_729 wq_730 wi_7 wq_731, ⟨by decide +kernel, by decide +kernel, by decide +kernel⟩⟩
theorem cv_L_128 : zCv RL 128 8 yX8_looked cX8_looked 3 (some .int) 0 := ⟨TX8, znf 8, rfl, by decide, zwsV wq_1160 wq_1161 wq_1162 wi_8 wq_1163, ⟨by decide +kernel, by decide +kernel, by decide +kernel⟩⟩
theorem cv_L_129 : zCv RL 129 7 yX7_judge cX7_judge 5 (some .int) 2 := ⟨TX7, znf 7, rfl, by decide, zwsV wq_732 wq_733 wq_734 wi_7 wq_735, ⟨by decide +kernel, by decide +kernel, by decide +kernel⟩⟩
theorem cv_L_132 : zCv RL 132 8 yX8_judge cX8_judge 4 (some .int) 2 := ⟨TX8, znf 8, rfl, by decide, zwsV wq_1164 wq_1165 wq_1166 wi_8 wq_1167, ⟨by decide +kernel, by decide +kernel, by decide +kernel⟩⟩
theorem cv_L_133 : zCv RL 133 7 yX7_image cX7_image 1 (some .int) 0 := ⟨TX7, znf 7, rfl, by decide, zwsV wq_753 wq_754 wq_755 wi_7 wq_756, ⟨by decide +kernel, by decide +kernel, by decide +kernel⟩⟩
theorem cv_L_136 : zCv RL 136 8 yX8_image cX8_image 1 (some .int) 0 := ⟨TX8, znf 8, rfl, by decide, zwsV wq_1169 wq_1170 wq_1171 wi_8 wq_1172, ⟨by decide +kernel, by decide +kernel, by decide +kernel⟩⟩
theorem cv_L_137 : zCv RL 137 7 yX7_undo cX7_undo 1 (some .int) 0 := ⟨TX7, znf 7, rfl, by decide, zwsV wq_768 wq_769 wq_770 wi_7 wq_771, ⟨by decide +kernel, by decide +kernel, by decide +kernel⟩⟩
theorem cv_L_140 : zCv RL 140 8 yX8_undo cX8_undo 1 (some .int) 0 := ⟨TX8, znf 8, rfl, by decide, zwsV wq_1173 wq_1174 wq_1175 wi_8 wq_1176, ⟨by decide +kernel, by decide +kernel, by decide +kernel⟩⟩
theorem cv_L_141 : zCv RL 141 7 yX7_taken cX7_taken 3 (some .int) 2 := ⟨TX7, znf 7, rfl, by decide, zwsV wq_772 wq_773 wq_774 wi_7 wq_775, ⟨by decide +kernel, by decide +kernel, by decide +kernel⟩⟩
theorem cv_L_144 : zCv RL 144 8 yX8_taken cX8_taken 5 (some .int) 2 := ⟨TX8, znf 8, rfl, by decide, zwsV wq_1177 wq_1178 wq_1179 wi_8 wq_1180, ⟨by decide +kernel, by decide +kernel, by decide +kernel⟩⟩
theorem cv_L_145 : zCv RL 145 7 yX7_count cX7_count 2 (some .int) 1 := ⟨TX7, znf 7, rfl, by decide, zwsV wq_781 wq_782 wq_783 wi_7 wq_784, ⟨by decide +kernel, by decide +kernel, by decide +kernel⟩⟩
theorem cv_L_148 : zCv RL 148 8 yX8_count cX8_count 2 (some .int) 1 := ⟨TX8, znf 8, rfl, by decide, zwsV wq_1181 wq_1182 wq_1183 wi_8 wq_1184, ⟨by decide +kernel, by decide +kernel, by decide +kernel⟩⟩
theorem cv_L_149 : zCv RL 149 7 yX7_tape cX7_tape 4 (some .int) 3 := ⟨TX7, znf 7, rfl, by decide, zwsV wq_785 wq_786 wq_787 wi_7 wq_788, ⟨by decide +kernel, by decide +kernel, by decide +kernel⟩⟩
theorem cv_L_152 : zCv RL 152 8 yX8_tape cX8_tape 5 (some .int) 3 := ⟨TX8, znf 8, rfl, by decide, zwsV wq_1185 wq_1186 wq_1187 wi_8 wq_1188, ⟨by decide +kernel, by decide +kernel, by decide +kernel⟩⟩
theorem cv_L_155 : zCv RL 155 7 yX7_item cX7_item 5 (some .int) 3 := ⟨TX7, znf 7, rfl, by decide, zwsV wq_799 wq_800 wq_801 wi_7 wq_802, ⟨by decide +kernel, by decide +kernel, by decide +kernel⟩⟩
theorem cv_L_159 : zCv RL 159 8 yX8_item cX8_item 5 (some .int) 3 := ⟨TX8, znf 8, rfl, by decide, zwsV wq_1190 wq_1191 wq_1192 wi_8 wq_1193, ⟨by decide +kernel, by decide +kernel, by decide +kernel⟩⟩
theorem cv_L_160 : zCv RL 160 7 yX7_read cX7_read 3 (some .long) 2 := ⟨TX7, znf 7, rfl, by decide, zwsV wq_810 wq_811 wq_812 wi_7 wq_813, ⟨by decide +kernel, by decide +kernel, by decide +kernel⟩⟩
theorem cv_L_163 : zCv RL 163 8 yX8_read cX8_read 3 (some .long) 2 := ⟨TX8, znf 8, rfl, by decide, zwsV wq_1197 wq_1198 wq_1199 wi_8 wq_1200, ⟨by decide +kernel, by decide +kernel, by decide +kernel⟩⟩
theorem cv_L_164 : zCv RL 164 7 yX7_shift cX7_shift 6 (some .int) 5 := ⟨TX7, znf 7, rfl, by decide, zwsV wq_814 wq_815 wq_816 wi_7 wq_817, ⟨by decide +kernel, by decide +kernel, by decide +kernel⟩⟩
theorem cv_L_168 : zCv RL 168 8 yX8_shift cX8_shift 8 (some .int) 5 := ⟨TX8, znf 8, rfl, by decide, zwsV wq_1201 wq_1202 wq_1203 wi_8 wq_1204, ⟨by decide +kernel, by decide +kernel, by decide +kernel⟩⟩
def R_law : String := "ReversedLinksLaw"
def lw_P (b : Addr) (xs : List Int32) (args : Array Value) (s : State) : Prop := args = #[.ref b] ∧ s.IntsAt b xs ∧ xs.length ≤ 3072 ∧ (Jvm.Cond.and given_1 narrow_1).before args s = true
def lw_Q (_ : Array Value) (s : State) (o : Outcome) (t : State) : Prop := o = .returned (some (.int 1)) ∧ Framed s o t [] 68 4074
def lw_Z (below : List Frame) (a : Array Value) (s : State) : State → Prop := fun t => ∃ o, t.status = .running ∧ Ended t below o ∧ lw_Q a s o t
/-- the law's own end, with 1 on the stack, nothing written that was there before, its room as the claim has it -/
theorem lw_ret {p : Program} {l : Launch} {e : Env} {s : State} {m : MethodId} {below : List Frame} {meth : Method} {c : Code} {b : Nat} (hx : p.tables.exec = Jvm.exec) (hb : c.code = code) (hr : meth.sig.returnType = ret) (hlocks : meth.locks = false) {pc : Nat} {H : Heap} {ls : Array Slot} (hdg : decode code pc = .ok (.ireturn, 1)) : W p l e room_1 s m #[Value.ref b] below meth c H [] 68 4074 (lw_Z below #[Value.ref b] s) (F0 m pc ls [.int 1]) := by
  intro T hT X
  obtain ⟨fs, hret, hrun, hended, hW, hframe⟩ := X.leave (v := some (.int 1)) (hlocks := hlocks) (fun h => by rw [hr] at h; cases h)
  have hmeth' : T.vm.method? m = some meth := X.method'
  refine ⟨T.setFrames fs, ?_, .returned (some (.int 1)), hrun, hended, rfl, ⟨_, rfl⟩, hW, hframe⟩
  jvm_step X.here [X.here.top, hx, hb, hdg, hmeth', hr, ret, narrow_b1]
  (try refine ⟨rfl, ?_⟩); (try refine ⟨rfl, ?_⟩)
  first | (intro acts; rw [hret _ acts rfl rfl rfl]) | rw [hret _ _ rfl rfl rfl]
  exact Steps.refl _
/-- what holds at the law's entry: the machine, the code, the tables' words (any of lw_tbl by 'hts w (by decide +kernel)'), the script of L ints xs at the cell b, what the Statement gives of the start (any of its parts by flat_of_before) -/
def lw_At (p : Program) (s : State) (m : MethodId) (meth : Method) (c : Code) (b L : Nat) (xs : Nat → Int32) : Prop :=
  p.tables.exec = Jvm.exec ∧ c.code = code ∧ meth.sig.returnType = ret ∧ c.maxLocals = 4 ∧ s.vm.findClass R_law = some m.cls ∧ (∀ w ∈ lw_tbl, w.before #[Value.ref b] s = true) ∧ va_X b L xs s s.heap ∧ b < s.heap.size ∧ meth.locks = false ∧ (Jvm.Cond.and given_1 narrow_1).before #[Value.ref b] s = true
/-! the law: two worlds beside one another -/
def zLx (p : Program) (s : State) (m : MethodId) (c : Code) (args : Array Value) (D : va_G) (cI cJ : ClassId) : Prop :=
  p.tables.exec = Jvm.exec ∧ c.code = code ∧ c.maxLocals = 4 ∧ s.vm.findClass RL = some m.cls ∧ (∀ w ∈ zTb, w.before args s = true) ∧ va_K D vwCl (zT cI cJ) s ∧ zN s ∧ zUN 0 (fun q => s.heap.size ≤ q) s s.heap
def zLa (s : State) (adA adB : Nat → Nat) : Prop := (∀ a, a < zsz 0 → s.heap.size ≤ adA a) ∧ (∀ a, a < zsz 1 → s.heap.size ≤ adB a) ∧ zInj 0 adA ∧ zInj 1 adB ∧ ∀ a b, a < zsz 0 → b < zsz 1 → adA a ≠ adB b
def zLo (D : va_G) (cI cJ : ClassId) (adA adB : Nat → Nat) (s : State) (σ τ : zkS) (H : Heap) (locs : List Loc) : Prop := va_P D vwCl (zW 0 cI cJ adA σ) H ∧ va_P D vwCl (zW 1 cI cJ adB τ) H ∧ va_S (fun q => s.heap.size ≤ q) s.heap H locs
section ZL
variable {p : Program} {l : Launch} {e : Env} {s : State} {m : MethodId} {args : Array Value} {below : List Frame} {meth : Method} {c : Code} {H : Heap} {locs : List Loc} {Q : State → Prop}
variable {D : va_G} {cI cJ : ClassId} {adA adB : Nat → Nat} {σ τ : zkS} {pc : Nat} {ls : Array Slot} {rest : List Value}
theorem zl_run {u : Nat} {adr : Nat → Nat} {y : MethodName} {bytes : ByteArray} {maxL n index ci : Nat} {ret : Option FieldType} {rm : Room} {As : List Value} {Qc : Array Value → State → Outcome → State → Prop} {st0 : List Value}
    (hC : zLx p s m c args D cI cJ) (hP : va_P D vwCl (zW u cI cJ adr σ) H) (hS : va_S (fun q => s.heap.size ≤ q) s.heap H locs) (hlo : ∀ a, a < zsz u → s.heap.size ≤ adr a) (hz : 0 < zsz u)
    (hM : Met l y (Cond.code y bytes maxL ret :: zTb) rm (zPre u D cI cJ adr σ H.size (.ref (adr 0) :: As)) Qc 0 0 (zA u adr H.size)) (hv : zCv RL index ci y bytes maxL ret n) (hk : zkd u 0 = ci) (hn : As.length = n)
    (hR : (rm.cells = 0 ∧ rm.slots = 0) ∧ rm.frames + 1 ≤ 9 ∧ 8 + (maxL + 11) + rm.locals ≤ 334) (hls : ls.size = 4) (hst : st0 = As.reverse ++ .ref (adr 0) :: rest) (hro : (rest.map fun v => v.category).sum ≤ 8) (hdg : decode code pc = .ok (.invokevirtual index, 3)) :
    va_Run p l e room_1 s m args below meth c H locs 68 4074 0 0 (F0 m pc ls st0) rest (Qc (Value.ref (adr 0) :: As).toArray) (zA u adr H.size) := by
  obtain ⟨T, N, h1, h9, h2, h3⟩ := hv
  have hAs : ∀ q, zA u adr H.size q → s.heap.size ≤ q := by
    intro q hq
    rcases hq with ⟨a, ha, rfl⟩ | hq
    · exact hlo a ha
    · exact Nat.le_trans hS.1 hq
  refine va_runV (As := As) (rest := rest) ⟨hC.1, hC.2.1, hC.2.2.1, hC.2.2.2.1, hC.2.2.2.2.1⟩ hM (cwV n hC.2.2.2.2.1 h2 rfl hR.1.1 hR.1.2 ⟨rfl, h3⟩ hR.2) ⟨zPre_blind, va_recv hC.2.2.2.2.2.1 hP h1 (zW_ob hz hk h9), fun U hU hW => ⟨rfl, by rw [hU], by rw [hU]; exact hP, va_K.moved hW.alike hC.2.2.2.2.2.1, fun w hw => va_Nw.warmM hW (hC.2.2.2.2.2.2.1 w hw), fun hu => ?_⟩⟩ rfl hn hls hst (lv_room hro) hdg ⟨Nat.le_refl _, Nat.le_refl _⟩
  obtain ⟨t, g1, g2⟩ := hC.2.2.2.2.2.2.2 rfl
  rw [hU]
  exact ⟨t, ((g1.kept hS.2.1).narrow hAs).moved hW.alike, ((g2.kept hS.2.1).narrow hAs).moved hW.alike⟩
theorem zl_keep {u v : Nat} {adr adr' : Nat → Nat} {H1 : Heap} (hP' : va_P D vwCl (zW v cI cJ adr' τ) H) (hap : ∀ a b, a < zsz u → b < zsz v → adr a ≠ adr' b) (hk : ∀ q : Nat, q < H.size → ¬ zA u adr H.size q → H1[q]? = H[q]?) : va_P D vwCl (zW v cI cJ adr' τ) H1 := by
  refine hP'.kept (fun k q hq => ?_)
  have hl := (hP' k q hq).lt
  obtain ⟨h1, h2⟩ := zW_inv hq
  refine hk q.1 hl (fun h => ?_)
  rcases h with ⟨a, ha, e⟩ | h
  · exact hap a k ha h1 (by rw [← e, h2])
  · omega
variable {st0 : List Value} {a : Array Value}
theorem zl_ai (hL : zLa s adA adB) (hV : zLo D cI cJ adA adB s σ τ H locs) {r : Int32} {σ1 : zkS} (hr : va_Run p l e room_1 s m args below meth c H locs 68 4074 0 0 (F0 m pc ls st0) rest (zQi 0 D cI cJ adA H.size r σ1 a) (zA 0 adA H.size))
    (kk : ∀ (H : Heap) (locs : List Loc), zLo D cI cJ adA adB s σ1 τ H locs → W p l e room_1 s m args below meth c H locs 68 4074 Q (F0 m (pc + 3) ls (.int r :: rest))) : W p l e room_1 s m args below meth c H locs 68 4074 Q (F0 m pc ls st0) := by
  have hAs : ∀ q, zA 0 adA H.size q → s.heap.size ≤ q := fun q hq => hq.elim (fun ⟨x, hx, e⟩ => by rw [e]; exact hL.1 x hx) (fun h => Nat.le_trans hV.2.2.1 h)
  refine va_calli hr hV.2.2 (fun q _ h => hAs q h) hAs (fun r' _ t H1 locs1 ht hvm hw hB hz1 hk1 hS => ?_)
  subst hw
  subst ht
  exact kk _ locs1 ⟨hB, zl_keep hV.2.1 hL.2.2.2.2 hk1, hS⟩
theorem zl_al (hL : zLa s adA adB) (hV : zLo D cI cJ adA adB s σ τ H locs) {r : Int64} {σ1 : zkS} (hr : va_Run p l e room_1 s m args below meth c H locs 68 4074 0 0 (F0 m pc ls st0) rest (zQl 0 D cI cJ adA H.size r σ1 a) (zA 0 adA H.size))
    (kk : ∀ (H : Heap) (locs : List Loc), zLo D cI cJ adA adB s σ1 τ H locs → W p l e room_1 s m args below meth c H locs 68 4074 Q (F0 m (pc + 3) ls (.long r :: rest))) : W p l e room_1 s m args below meth c H locs 68 4074 Q (F0 m pc ls st0) := by
  have hAs : ∀ q, zA 0 adA H.size q → s.heap.size ≤ q := fun q hq => hq.elim (fun ⟨x, hx, e⟩ => by rw [e]; exact hL.1 x hx) (fun h => Nat.le_trans hV.2.2.1 h)
  refine va_calll hr hV.2.2 (fun q _ h => hAs q h) hAs (fun r' _ t H1 locs1 ht hvm hw hB hz1 hk1 hS => ?_)
  subst hw
  subst ht
  exact kk _ locs1 ⟨hB, zl_keep hV.2.1 hL.2.2.2.2 hk1, hS⟩
theorem zl_bi (hL : zLa s adA adB) (hV : zLo D cI cJ adA adB s σ τ H locs) {r : Int32} {σ1 : zkS} (hr : va_Run p l e room_1 s m args below meth c H locs 68 4074 0 0 (F0 m pc ls st0) rest (zQi 1 D cI cJ adB H.size r σ1 a) (zA 1 adB H.size))
    (kk : ∀ (H : Heap) (locs : List Loc), zLo D cI cJ adA adB s σ σ1 H locs → W p l e room_1 s m args below meth c H locs 68 4074 Q (F0 m (pc + 3) ls (.int r :: rest))) : W p l e room_1 s m args below meth c H locs 68 4074 Q (F0 m pc ls st0) := by
  have hAs : ∀ q, zA 1 adB H.size q → s.heap.size ≤ q := fun q hq => hq.elim (fun ⟨x, hx, e⟩ => by rw [e]; exact hL.2.1 x hx) (fun h => Nat.le_trans hV.2.2.1 h)
  refine va_calli hr hV.2.2 (fun q _ h => hAs q h) hAs (fun r' _ t H1 locs1 ht hvm hw hB hz1 hk1 hS => ?_)
  subst hw
  subst ht
  exact kk _ locs1 ⟨zl_keep hV.1 (fun a b ha hb e => hL.2.2.2.2 b a hb ha e.symm) hk1, hB, hS⟩
theorem zl_bl (hL : zLa s adA adB) (hV : zLo D cI cJ adA adB s σ τ H locs) {r : Int64} {σ1 : zkS} (hr : va_Run p l e room_1 s m args below meth c H locs 68 4074 0 0 (F0 m pc ls st0) rest (zQl 1 D cI cJ adB H.size r σ1 a) (zA 1 adB H.size))
    (kk : ∀ (H : Heap) (locs : List Loc), zLo D cI cJ adA adB s σ σ1 H locs → W p l e room_1 s m args below meth c H locs 68 4074 Q (F0 m (pc + 3) ls (.long r :: rest))) : W p l e room_1 s m args below meth c H locs 68 4074 Q (F0 m pc ls st0) := by
  have hAs : ∀ q, zA 1 adB H.size q → s.heap.size ≤ q := fun q hq => hq.elim (fun ⟨x, hx, e⟩ => by rw [e]; exact hL.2.1 x hx) (fun h => Nat.le_trans hV.2.2.1 h)
  refine va_calll hr hV.2.2 (fun q _ h => hAs q h) hAs (fun r' _ t H1 locs1 ht hvm hw hB hz1 hk1 hS => ?_)
  subst hw
  subst ht
  exact kk _ locs1 ⟨zl_keep hV.1 (fun a b ha hb e => hL.2.2.2.2 b a hb ha e.symm) hk1, hB, hS⟩
/-- a place of the script -/
theorem zl_ld {b L : Nat} {xs : Nat → Int32} (hC : zLx p s m c args D cI cJ) (hX : va_X b L xs s s.heap) (hbl : b < s.heap.size) (hV : zLo D cI cJ adA adB s σ τ H locs) {i v : Int32} (hin : vp_in i L) (he : xs i.toNatClampNeg = v) (hdg : decode code pc = .ok (.iaload, 1)) {cells slots : Nat}
    (kk : W p l e room_1 s m args below meth c H locs cells slots Q (F0 m (pc + 1) ls (.int v :: rest))) : W p l e room_1 s m args below meth c H locs cells slots Q (F0 m pc ls (.int i :: .ref b :: rest)) := by
  subst he
  exact va_sld hC.1 hC.2.1 hX hbl (Nat.not_le.mpr hbl) hV.2.2 hin hdg kk
theorem zl_in {i k L : Nat} (h : i + 6 ≤ L) (hL : L ≤ 3072) (hk : k < 6) : vp_in (nI i + nI k) L := by
  rw [nI_add]
  exact vp_in_nI (by omega) (by omega)
theorem zl_cmp (r : Int64) : lg_cmp r r = 0 := by
  unfold lg_cmp
  rw [if_neg (by simp), if_pos rfl]
end ZL
set_option maxHeartbeats 4000000 in
set_option maxRecDepth 100000 in
theorem lw_case_0 {p : Program} {l : Launch} {e : Env} {s : State} {m : MethodId} {below : List Frame} {meth : Method} {c : Code} {b L : Nat} {xs : Nat → Int32} {D : va_G} {cI cJ : ClassId} {adA adB : Nat → Nat} (hC : zLx p s m c #[Value.ref b] D cI cJ) (hL : zLa s adA adB) (hX : va_X b L xs s s.heap) (hbl : b < s.heap.size) (hLL : L ≤ 3072) {n : Nat}
    (ih : ∀ (i : Nat) (x3 : Int32) (σ τ : zkS), i ≤ L → L + 1 ≤ i + n → zRel σ τ → ∀ (H : Heap) (locs : List Loc), zLo D cI cJ adA adB s σ τ H locs → ∀ (ls : Array Slot), lv_has ls 4 [(0, .ref b), (1, .ref (adA 0)), (2, .ref (adB 0)), (3, .int x3)] → x3 = nI i → W p l e room_1 s m #[Value.ref b] below meth c H locs 68 4074 (lw_Z below #[Value.ref b] s) (F0 m 18 ls [])) {i : Nat} {σ τ : zkS} (hi6 : i + 6 ≤ L) (hin : L + 1 ≤ i + (n + 1)) (hR : zRel σ τ) {a1 a2 a3 a4 a5 : Int32} (e1 : xs ((nI i) + 1).toNatClampNeg = a1) (e2 : xs ((nI i) + 2).toNatClampNeg = a2) (e3 : xs ((nI i) + 3).toNatClampNeg = a3) (e4 : xs ((nI i) + 4).toNatClampNeg = a4) (e5 : xs ((nI i) + 5).toNatClampNeg = a5)
    {H : Heap} {locs : List Loc} (hV : zLo D cI cJ adA adB s σ τ H locs) {ls : Array Slot} (hl : lv_has ls 4 [(0, .ref b), (1, .ref (adA 0)), (2, .ref (adB 0)), (3, .int (nI i))]) : W p l e room_1 s m #[Value.ref b] below meth c H locs 68 4074 (lw_Z below #[Value.ref b] s) (F0 m 192 ls []) := by
  have hx := hC.1
  have hb := hC.2.1
  have h1 : vp_in ((nI i) + 1) L := zl_in (k := 1) hi6 hLL (by decide)
  have h2 : vp_in ((nI i) + 2) L := zl_in (k := 2) hi6 hLL (by decide)
  have h3 : vp_in ((nI i) + 3) L := zl_in (k := 3) hi6 hLL (by decide)
  have h4 : vp_in ((nI i) + 4) L := zl_in (k := 4) hi6 hLL (by decide)
  have h5 : vp_in ((nI i) + 5) L := zl_in (k := 5) hi6 hLL (by decide)
  refine lv_aload_n hx hb dL_law_192 rfl (lv_at hl 1 rfl) ?_
  refine lv_aload_n hx hb dL_law_193 rfl (lv_at hl 0 rfl) ?_
  refine lv_iload_n hx hb dL_law_194 rfl (lv_at hl 3 rfl) ?_
  refine lv_iconst (v := 1) hx hb dL_law_195 (by decide) ?_
  refine lv_iadd hx hb dL_law_196 ?_
  refine zl_ld hC hX hbl hV h1 e1 dL_law_197 ?_
  refine lv_aload_n hx hb dL_law_198 rfl (lv_at hl 0 rfl) ?_
  refine lv_iload_n hx hb dL_law_199 rfl (lv_at hl 3 rfl) ?_
  refine lv_iconst (v := 2) hx hb dL_law_200 (by decide) ?_
  refine lv_iadd hx hb dL_law_201 ?_
  refine zl_ld hC hX hbl hV h2 e2 dL_law_202 ?_
  refine lv_aload_n hx hb dL_law_203 rfl (lv_at hl 0 rfl) ?_
  refine lv_iload_n hx hb dL_law_204 rfl (lv_at hl 3 rfl) ?_
  refine lv_iconst (v := 3) hx hb dL_law_205 (by decide) ?_
  refine lv_iadd hx hb dL_law_206 ?_
  refine zl_ld hC hX hbl hV h3 e3 dL_law_207 ?_
  obtain ⟨r, σ1, τ1, hq1, hq2, hR⟩ := T_cell hR a1 a2 a3
  refine zl_ai hL hV (zl_run (u := 0) (As := [.int a1, .int a2, .int a3]) (rest := []) hC hV.1 hV.2.2 hL.1 (by decide +kernel) (mX7_cell a1 a2 a3 σ hL.2.2.1 hq1) cv_L_13 zck_0_0 rfl ⟨⟨rfl, rfl⟩, Nat.le_of_ble_eq_true rfl, Nat.le_of_ble_eq_true rfl⟩ (zlv_size hl) rfl (Nat.le_of_ble_eq_true rfl) dL_law_208) (fun H locs hV => ?_)
  refine lv_aload_n hx hb dL_law_211 rfl (lv_at hl 2 rfl) ?_
  refine lv_aload_n hx hb dL_law_212 rfl (lv_at hl 0 rfl) ?_
  refine lv_iload_n hx hb dL_law_213 rfl (lv_at hl 3 rfl) ?_
  refine lv_iconst (v := 1) hx hb dL_law_214 (by decide) ?_
  refine lv_iadd hx hb dL_law_215 ?_
  refine zl_ld hC hX hbl hV h1 e1 dL_law_216 ?_
  refine lv_aload_n hx hb dL_law_217 rfl (lv_at hl 0 rfl) ?_
  refine lv_iload_n hx hb dL_law_218 rfl (lv_at hl 3 rfl) ?_
  refine lv_iconst (v := 2) hx hb dL_law_219 (by decide) ?_
  refine lv_iadd hx hb dL_law_220 ?_
  refine zl_ld hC hX hbl hV h2 e2 dL_law_221 ?_
  refine lv_aload_n hx hb dL_law_222 rfl (lv_at hl 0 rfl) ?_
  refine lv_iload_n hx hb dL_law_223 rfl (lv_at hl 3 rfl) ?_
  refine lv_iconst (v := 3) hx hb dL_law_224 (by decide) ?_
  refine lv_iadd hx hb dL_law_225 ?_
  refine zl_ld hC hX hbl hV h3 e3 dL_law_226 ?_
  refine zl_bi hL hV (zl_run (u := 1) (As := [.int a1, .int a2, .int a3]) (rest := [.int r]) hC hV.2.1 hV.2.2 hL.2.1 (by decide +kernel) (mX8_cell a1 a2 a3 τ hL.2.2.2.1 hq2) cv_L_17 zck_1_0 rfl ⟨⟨rfl, rfl⟩, Nat.le_of_ble_eq_true rfl, Nat.le_of_ble_eq_true rfl⟩ (zlv_size hl) rfl (Nat.le_of_ble_eq_true rfl) dL_law_227) (fun H locs hV => ?_)
  refine lv_icmp_eq (tgt := 1335) hx hb dL_law_230 (by decide) (fun _ => ?_) (fun hc => absurd rfl hc)
  refine lv_iinc (v := nI (i + 6)) (lv' := [(3, .int (nI (i + 6))), (0, .ref b), (1, .ref (adA 0)), (2, .ref (adB 0))]) hx hb dL_law_1335 hl (k := 3) rfl (nI_add i 6) (by decide) rfl (fun ls hl => ?_)
  refine lv_goto (tgt := 18) hx hb dL_law_1338 (by decide) ?_
  exact ih (i + 6) _ σ1 τ1 (by omega) (by omega) hR _ _ hV ls (lv_sub hl [1, 2, 3, 0] rfl) rfl

set_option maxHeartbeats 4000000 in
set_option maxRecDepth 100000 in
theorem lw_case_1 {p : Program} {l : Launch} {e : Env} {s : State} {m : MethodId} {below : List Frame} {meth : Method} {c : Code} {b L : Nat} {xs : Nat → Int32} {D : va_G} {cI cJ : ClassId} {adA adB : Nat → Nat} (hC : zLx p s m c #[Value.ref b] D cI cJ) (hL : zLa s adA adB) (hX : va_X b L xs s s.heap) (hbl : b < s.heap.size) (hLL : L ≤ 3072) {n : Nat}
    (ih : ∀ (i : Nat) (x3 : Int32) (σ τ : zkS), i ≤ L → L + 1 ≤ i + n → zRel σ τ → ∀ (H : Heap) (locs : List Loc), zLo D cI cJ adA adB s σ τ H locs → ∀ (ls : Array Slot), lv_has ls 4 [(0, .ref b), (1, .ref (adA 0)), (2, .ref (adB 0)), (3, .int x3)] → x3 = nI i → W p l e room_1 s m #[Value.ref b] below meth c H locs 68 4074 (lw_Z below #[Value.ref b] s) (F0 m 18 ls [])) {i : Nat} {σ τ : zkS} (hi6 : i + 6 ≤ L) (hin : L + 1 ≤ i + (n + 1)) (hR : zRel σ τ) {a1 a2 a3 a4 a5 : Int32} (e1 : xs ((nI i) + 1).toNatClampNeg = a1) (e2 : xs ((nI i) + 2).toNatClampNeg = a2) (e3 : xs ((nI i) + 3).toNatClampNeg = a3) (e4 : xs ((nI i) + 4).toNatClampNeg = a4) (e5 : xs ((nI i) + 5).toNatClampNeg = a5)
    {H : Heap} {locs : List Loc} (hV : zLo D cI cJ adA adB s σ τ H locs) {ls : Array Slot} (hl : lv_has ls 4 [(0, .ref b), (1, .ref (adA 0)), (2, .ref (adB 0)), (3, .int (nI i))]) : W p l e room_1 s m #[Value.ref b] below meth c H locs 68 4074 (lw_Z below #[Value.ref b] s) (F0 m 235 ls []) := by
  have hx := hC.1
  have hb := hC.2.1
  have h1 : vp_in ((nI i) + 1) L := zl_in (k := 1) hi6 hLL (by decide)
  have h2 : vp_in ((nI i) + 2) L := zl_in (k := 2) hi6 hLL (by decide)
  have h3 : vp_in ((nI i) + 3) L := zl_in (k := 3) hi6 hLL (by decide)
  have h4 : vp_in ((nI i) + 4) L := zl_in (k := 4) hi6 hLL (by decide)
  have h5 : vp_in ((nI i) + 5) L := zl_in (k := 5) hi6 hLL (by decide)
  refine lv_aload_n hx hb dL_law_235 rfl (lv_at hl 1 rfl) ?_
  refine lv_aload_n hx hb dL_law_236 rfl (lv_at hl 0 rfl) ?_
  refine lv_iload_n hx hb dL_law_237 rfl (lv_at hl 3 rfl) ?_
  refine lv_iconst (v := 1) hx hb dL_law_238 (by decide) ?_
  refine lv_iadd hx hb dL_law_239 ?_
  refine zl_ld hC hX hbl hV h1 e1 dL_law_240 ?_
  refine lv_aload_n hx hb dL_law_241 rfl (lv_at hl 0 rfl) ?_
  refine lv_iload_n hx hb dL_law_242 rfl (lv_at hl 3 rfl) ?_
  refine lv_iconst (v := 2) hx hb dL_law_243 (by decide) ?_
  refine lv_iadd hx hb dL_law_244 ?_
  refine zl_ld hC hX hbl hV h2 e2 dL_law_245 ?_
  obtain ⟨r, σ1, τ1, hq1, hq2, hR⟩ := T_of hR a1 a2
  refine zl_ai hL hV (zl_run (u := 0) (As := [.int a1, .int a2]) (rest := []) hC hV.1 hV.2.2 hL.1 (by decide +kernel) (mX7_of a1 a2 σ hL.2.2.1 hq1) cv_L_18 zck_0_0 rfl ⟨⟨rfl, rfl⟩, Nat.le_of_ble_eq_true rfl, Nat.le_of_ble_eq_true rfl⟩ (zlv_size hl) rfl (Nat.le_of_ble_eq_true rfl) dL_law_246) (fun H locs hV => ?_)
  refine lv_aload_n hx hb dL_law_249 rfl (lv_at hl 2 rfl) ?_
  refine lv_aload_n hx hb dL_law_250 rfl (lv_at hl 0 rfl) ?_
  refine lv_iload_n hx hb dL_law_251 rfl (lv_at hl 3 rfl) ?_
  refine lv_iconst (v := 1) hx hb dL_law_252 (by decide) ?_
  refine lv_iadd hx hb dL_law_253 ?_
  refine zl_ld hC hX hbl hV h1 e1 dL_law_254 ?_
  refine lv_aload_n hx hb dL_law_255 rfl (lv_at hl 0 rfl) ?_
  refine lv_iload_n hx hb dL_law_256 rfl (lv_at hl 3 rfl) ?_
  refine lv_iconst (v := 2) hx hb dL_law_257 (by decide) ?_
  refine lv_iadd hx hb dL_law_258 ?_
  refine zl_ld hC hX hbl hV h2 e2 dL_law_259 ?_
  refine zl_bi hL hV (zl_run (u := 1) (As := [.int a1, .int a2]) (rest := [.int r]) hC hV.2.1 hV.2.2 hL.2.1 (by decide +kernel) (mX8_of a1 a2 τ hL.2.2.2.1 hq2) cv_L_22 zck_1_0 rfl ⟨⟨rfl, rfl⟩, Nat.le_of_ble_eq_true rfl, Nat.le_of_ble_eq_true rfl⟩ (zlv_size hl) rfl (Nat.le_of_ble_eq_true rfl) dL_law_260) (fun H locs hV => ?_)
  refine lv_icmp_eq (tgt := 1335) hx hb dL_law_263 (by decide) (fun _ => ?_) (fun hc => absurd rfl hc)
  refine lv_iinc (v := nI (i + 6)) (lv' := [(3, .int (nI (i + 6))), (0, .ref b), (1, .ref (adA 0)), (2, .ref (adB 0))]) hx hb dL_law_1335 hl (k := 3) rfl (nI_add i 6) (by decide) rfl (fun ls hl => ?_)
  refine lv_goto (tgt := 18) hx hb dL_law_1338 (by decide) ?_
  exact ih (i + 6) _ σ1 τ1 (by omega) (by omega) hR _ _ hV ls (lv_sub hl [1, 2, 3, 0] rfl) rfl

set_option maxHeartbeats 4000000 in
set_option maxRecDepth 100000 in
theorem lw_case_2 {p : Program} {l : Launch} {e : Env} {s : State} {m : MethodId} {below : List Frame} {meth : Method} {c : Code} {b L : Nat} {xs : Nat → Int32} {D : va_G} {cI cJ : ClassId} {adA adB : Nat → Nat} (hC : zLx p s m c #[Value.ref b] D cI cJ) (hL : zLa s adA adB) (hX : va_X b L xs s s.heap) (hbl : b < s.heap.size) (hLL : L ≤ 3072) {n : Nat}
    (ih : ∀ (i : Nat) (x3 : Int32) (σ τ : zkS), i ≤ L → L + 1 ≤ i + n → zRel σ τ → ∀ (H : Heap) (locs : List Loc), zLo D cI cJ adA adB s σ τ H locs → ∀ (ls : Array Slot), lv_has ls 4 [(0, .ref b), (1, .ref (adA 0)), (2, .ref (adB 0)), (3, .int x3)] → x3 = nI i → W p l e room_1 s m #[Value.ref b] below meth c H locs 68 4074 (lw_Z below #[Value.ref b] s) (F0 m 18 ls [])) {i : Nat} {σ τ : zkS} (hi6 : i + 6 ≤ L) (hin : L + 1 ≤ i + (n + 1)) (hR : zRel σ τ) {a1 a2 a3 a4 a5 : Int32} (e1 : xs ((nI i) + 1).toNatClampNeg = a1) (e2 : xs ((nI i) + 2).toNatClampNeg = a2) (e3 : xs ((nI i) + 3).toNatClampNeg = a3) (e4 : xs ((nI i) + 4).toNatClampNeg = a4) (e5 : xs ((nI i) + 5).toNatClampNeg = a5)
    {H : Heap} {locs : List Loc} (hV : zLo D cI cJ adA adB s σ τ H locs) {ls : Array Slot} (hl : lv_has ls 4 [(0, .ref b), (1, .ref (adA 0)), (2, .ref (adB 0)), (3, .int (nI i))]) : W p l e room_1 s m #[Value.ref b] below meth c H locs 68 4074 (lw_Z below #[Value.ref b] s) (F0 m 268 ls []) := by
  have hx := hC.1
  have hb := hC.2.1
  have h1 : vp_in ((nI i) + 1) L := zl_in (k := 1) hi6 hLL (by decide)
  have h2 : vp_in ((nI i) + 2) L := zl_in (k := 2) hi6 hLL (by decide)
  have h3 : vp_in ((nI i) + 3) L := zl_in (k := 3) hi6 hLL (by decide)
  have h4 : vp_in ((nI i) + 4) L := zl_in (k := 4) hi6 hLL (by decide)
  have h5 : vp_in ((nI i) + 5) L := zl_in (k := 5) hi6 hLL (by decide)
  refine lv_aload_n hx hb dL_law_268 rfl (lv_at hl 1 rfl) ?_
  refine lv_aload_n hx hb dL_law_269 rfl (lv_at hl 0 rfl) ?_
  refine lv_iload_n hx hb dL_law_270 rfl (lv_at hl 3 rfl) ?_
  refine lv_iconst (v := 1) hx hb dL_law_271 (by decide) ?_
  refine lv_iadd hx hb dL_law_272 ?_
  refine zl_ld hC hX hbl hV h1 e1 dL_law_273 ?_
  refine lv_aload_n hx hb dL_law_274 rfl (lv_at hl 0 rfl) ?_
  refine lv_iload_n hx hb dL_law_275 rfl (lv_at hl 3 rfl) ?_
  refine lv_iconst (v := 2) hx hb dL_law_276 (by decide) ?_
  refine lv_iadd hx hb dL_law_277 ?_
  refine zl_ld hC hX hbl hV h2 e2 dL_law_278 ?_
  obtain ⟨r, hq1, hq2, hR⟩ := T_field hR a1 a2
  refine zl_ai hL hV (zl_run (u := 0) (As := [.int a1, .int a2]) (rest := []) hC hV.1 hV.2.2 hL.1 (by decide +kernel) (mX7_field a1 a2 σ hL.2.2.1 hq1) cv_L_23 zck_0_0 rfl ⟨⟨rfl, rfl⟩, Nat.le_of_ble_eq_true rfl, Nat.le_of_ble_eq_true rfl⟩ (zlv_size hl) rfl (Nat.le_of_ble_eq_true rfl) dL_law_279) (fun H locs hV => ?_)
  refine lv_aload_n hx hb dL_law_282 rfl (lv_at hl 2 rfl) ?_
  refine lv_aload_n hx hb dL_law_283 rfl (lv_at hl 0 rfl) ?_
  refine lv_iload_n hx hb dL_law_284 rfl (lv_at hl 3 rfl) ?_
  refine lv_iconst (v := 1) hx hb dL_law_285 (by decide) ?_
  refine lv_iadd hx hb dL_law_286 ?_
  refine zl_ld hC hX hbl hV h1 e1 dL_law_287 ?_
  refine lv_aload_n hx hb dL_law_288 rfl (lv_at hl 0 rfl) ?_
  refine lv_iload_n hx hb dL_law_289 rfl (lv_at hl 3 rfl) ?_
  refine lv_iconst (v := 2) hx hb dL_law_290 (by decide) ?_
  refine lv_iadd hx hb dL_law_291 ?_
  refine zl_ld hC hX hbl hV h2 e2 dL_law_292 ?_
  refine zl_bi hL hV (zl_run (u := 1) (As := [.int a1, .int a2]) (rest := [.int r]) hC hV.2.1 hV.2.2 hL.2.1 (by decide +kernel) (mX8_field a1 a2 τ hL.2.2.2.1 hq2) cv_L_26 zck_1_0 rfl ⟨⟨rfl, rfl⟩, Nat.le_of_ble_eq_true rfl, Nat.le_of_ble_eq_true rfl⟩ (zlv_size hl) rfl (Nat.le_of_ble_eq_true rfl) dL_law_293) (fun H locs hV => ?_)
  refine lv_icmp_eq (tgt := 1335) hx hb dL_law_296 (by decide) (fun _ => ?_) (fun hc => absurd rfl hc)
  refine lv_iinc (v := nI (i + 6)) (lv' := [(3, .int (nI (i + 6))), (0, .ref b), (1, .ref (adA 0)), (2, .ref (adB 0))]) hx hb dL_law_1335 hl (k := 3) rfl (nI_add i 6) (by decide) rfl (fun ls hl => ?_)
  refine lv_goto (tgt := 18) hx hb dL_law_1338 (by decide) ?_
  exact ih (i + 6) _ σ τ (by omega) (by omega) hR _ _ hV ls (lv_sub hl [1, 2, 3, 0] rfl) rfl

set_option maxHeartbeats 4000000 in
set_option maxRecDepth 100000 in
theorem lw_case_3 {p : Program} {l : Launch} {e : Env} {s : State} {m : MethodId} {below : List Frame} {meth : Method} {c : Code} {b L : Nat} {xs : Nat → Int32} {D : va_G} {cI cJ : ClassId} {adA adB : Nat → Nat} (hC : zLx p s m c #[Value.ref b] D cI cJ) (hL : zLa s adA adB) (hX : va_X b L xs s s.heap) (hbl : b < s.heap.size) (hLL : L ≤ 3072) {n : Nat}
    (ih : ∀ (i : Nat) (x3 : Int32) (σ τ : zkS), i ≤ L → L + 1 ≤ i + n → zRel σ τ → ∀ (H : Heap) (locs : List Loc), zLo D cI cJ adA adB s σ τ H locs → ∀ (ls : Array Slot), lv_has ls 4 [(0, .ref b), (1, .ref (adA 0)), (2, .ref (adB 0)), (3, .int x3)] → x3 = nI i → W p l e room_1 s m #[Value.ref b] below meth c H locs 68 4074 (lw_Z below #[Value.ref b] s) (F0 m 18 ls [])) {i : Nat} {σ τ : zkS} (hi6 : i + 6 ≤ L) (hin : L + 1 ≤ i + (n + 1)) (hR : zRel σ τ) {a1 a2 a3 a4 a5 : Int32} (e1 : xs ((nI i) + 1).toNatClampNeg = a1) (e2 : xs ((nI i) + 2).toNatClampNeg = a2) (e3 : xs ((nI i) + 3).toNatClampNeg = a3) (e4 : xs ((nI i) + 4).toNatClampNeg = a4) (e5 : xs ((nI i) + 5).toNatClampNeg = a5)
    {H : Heap} {locs : List Loc} (hV : zLo D cI cJ adA adB s σ τ H locs) {ls : Array Slot} (hl : lv_has ls 4 [(0, .ref b), (1, .ref (adA 0)), (2, .ref (adB 0)), (3, .int (nI i))]) : W p l e room_1 s m #[Value.ref b] below meth c H locs 68 4074 (lw_Z below #[Value.ref b] s) (F0 m 301 ls []) := by
  have hx := hC.1
  have hb := hC.2.1
  have h1 : vp_in ((nI i) + 1) L := zl_in (k := 1) hi6 hLL (by decide)
  have h2 : vp_in ((nI i) + 2) L := zl_in (k := 2) hi6 hLL (by decide)
  have h3 : vp_in ((nI i) + 3) L := zl_in (k := 3) hi6 hLL (by decide)
  have h4 : vp_in ((nI i) + 4) L := zl_in (k := 4) hi6 hLL (by decide)
  have h5 : vp_in ((nI i) + 5) L := zl_in (k := 5) hi6 hLL (by decide)
  refine lv_aload_n hx hb dL_law_301 rfl (lv_at hl 1 rfl) ?_
  refine lv_aload_n hx hb dL_law_302 rfl (lv_at hl 0 rfl) ?_
  refine lv_iload_n hx hb dL_law_303 rfl (lv_at hl 3 rfl) ?_
  refine lv_iconst (v := 1) hx hb dL_law_304 (by decide) ?_
  refine lv_iadd hx hb dL_law_305 ?_
  refine zl_ld hC hX hbl hV h1 e1 dL_law_306 ?_
  refine lv_aload_n hx hb dL_law_307 rfl (lv_at hl 0 rfl) ?_
  refine lv_iload_n hx hb dL_law_308 rfl (lv_at hl 3 rfl) ?_
  refine lv_iconst (v := 2) hx hb dL_law_309 (by decide) ?_
  refine lv_iadd hx hb dL_law_310 ?_
  refine zl_ld hC hX hbl hV h2 e2 dL_law_311 ?_
  obtain ⟨r, hq1, hq2, hR⟩ := T_raw hR a1 a2
  refine zl_ai hL hV (zl_run (u := 0) (As := [.int a1, .int a2]) (rest := []) hC hV.1 hV.2.2 hL.1 (by decide +kernel) (mX7_raw a1 a2 σ hL.2.2.1 hq1) cv_L_27 zck_0_0 rfl ⟨⟨rfl, rfl⟩, Nat.le_of_ble_eq_true rfl, Nat.le_of_ble_eq_true rfl⟩ (zlv_size hl) rfl (Nat.le_of_ble_eq_true rfl) dL_law_312) (fun H locs hV => ?_)
  refine lv_aload_n hx hb dL_law_315 rfl (lv_at hl 2 rfl) ?_
  refine lv_aload_n hx hb dL_law_316 rfl (lv_at hl 0 rfl) ?_
  refine lv_iload_n hx hb dL_law_317 rfl (lv_at hl 3 rfl) ?_
  refine lv_iconst (v := 1) hx hb dL_law_318 (by decide) ?_
  refine lv_iadd hx hb dL_law_319 ?_
  refine zl_ld hC hX hbl hV h1 e1 dL_law_320 ?_
  refine lv_aload_n hx hb dL_law_321 rfl (lv_at hl 0 rfl) ?_
  refine lv_iload_n hx hb dL_law_322 rfl (lv_at hl 3 rfl) ?_
  refine lv_iconst (v := 2) hx hb dL_law_323 (by decide) ?_
  refine lv_iadd hx hb dL_law_324 ?_
  refine zl_ld hC hX hbl hV h2 e2 dL_law_325 ?_
  refine zl_bi hL hV (zl_run (u := 1) (As := [.int a1, .int a2]) (rest := [.int r]) hC hV.2.1 hV.2.2 hL.2.1 (by decide +kernel) (mX8_raw a1 a2 τ hL.2.2.2.1 hq2) cv_L_30 zck_1_0 rfl ⟨⟨rfl, rfl⟩, Nat.le_of_ble_eq_true rfl, Nat.le_of_ble_eq_true rfl⟩ (zlv_size hl) rfl (Nat.le_of_ble_eq_true rfl) dL_law_326) (fun H locs hV => ?_)
  refine lv_icmp_eq (tgt := 1335) hx hb dL_law_329 (by decide) (fun _ => ?_) (fun hc => absurd rfl hc)
  refine lv_iinc (v := nI (i + 6)) (lv' := [(3, .int (nI (i + 6))), (0, .ref b), (1, .ref (adA 0)), (2, .ref (adB 0))]) hx hb dL_law_1335 hl (k := 3) rfl (nI_add i 6) (by decide) rfl (fun ls hl => ?_)
  refine lv_goto (tgt := 18) hx hb dL_law_1338 (by decide) ?_
  exact ih (i + 6) _ σ τ (by omega) (by omega) hR _ _ hV ls (lv_sub hl [1, 2, 3, 0] rfl) rfl

set_option maxHeartbeats 4000000 in
set_option maxRecDepth 100000 in
theorem lw_case_4 {p : Program} {l : Launch} {e : Env} {s : State} {m : MethodId} {below : List Frame} {meth : Method} {c : Code} {b L : Nat} {xs : Nat → Int32} {D : va_G} {cI cJ : ClassId} {adA adB : Nat → Nat} (hC : zLx p s m c #[Value.ref b] D cI cJ) (hL : zLa s adA adB) (hX : va_X b L xs s s.heap) (hbl : b < s.heap.size) (hLL : L ≤ 3072) {n : Nat}
    (ih : ∀ (i : Nat) (x3 : Int32) (σ τ : zkS), i ≤ L → L + 1 ≤ i + n → zRel σ τ → ∀ (H : Heap) (locs : List Loc), zLo D cI cJ adA adB s σ τ H locs → ∀ (ls : Array Slot), lv_has ls 4 [(0, .ref b), (1, .ref (adA 0)), (2, .ref (adB 0)), (3, .int x3)] → x3 = nI i → W p l e room_1 s m #[Value.ref b] below meth c H locs 68 4074 (lw_Z below #[Value.ref b] s) (F0 m 18 ls [])) {i : Nat} {σ τ : zkS} (hi6 : i + 6 ≤ L) (hin : L + 1 ≤ i + (n + 1)) (hR : zRel σ τ) {a1 a2 a3 a4 a5 : Int32} (e1 : xs ((nI i) + 1).toNatClampNeg = a1) (e2 : xs ((nI i) + 2).toNatClampNeg = a2) (e3 : xs ((nI i) + 3).toNatClampNeg = a3) (e4 : xs ((nI i) + 4).toNatClampNeg = a4) (e5 : xs ((nI i) + 5).toNatClampNeg = a5)
    {H : Heap} {locs : List Loc} (hV : zLo D cI cJ adA adB s σ τ H locs) {ls : Array Slot} (hl : lv_has ls 4 [(0, .ref b), (1, .ref (adA 0)), (2, .ref (adB 0)), (3, .int (nI i))]) : W p l e room_1 s m #[Value.ref b] below meth c H locs 68 4074 (lw_Z below #[Value.ref b] s) (F0 m 334 ls []) := by
  have hx := hC.1
  have hb := hC.2.1
  have h1 : vp_in ((nI i) + 1) L := zl_in (k := 1) hi6 hLL (by decide)
  have h2 : vp_in ((nI i) + 2) L := zl_in (k := 2) hi6 hLL (by decide)
  have h3 : vp_in ((nI i) + 3) L := zl_in (k := 3) hi6 hLL (by decide)
  have h4 : vp_in ((nI i) + 4) L := zl_in (k := 4) hi6 hLL (by decide)
  have h5 : vp_in ((nI i) + 5) L := zl_in (k := 5) hi6 hLL (by decide)
  refine lv_aload_n hx hb dL_law_334 rfl (lv_at hl 1 rfl) ?_
  refine lv_aload_n hx hb dL_law_335 rfl (lv_at hl 0 rfl) ?_
  refine lv_iload_n hx hb dL_law_336 rfl (lv_at hl 3 rfl) ?_
  refine lv_iconst (v := 1) hx hb dL_law_337 (by decide) ?_
  refine lv_iadd hx hb dL_law_338 ?_
  refine zl_ld hC hX hbl hV h1 e1 dL_law_339 ?_
  refine lv_aload_n hx hb dL_law_340 rfl (lv_at hl 0 rfl) ?_
  refine lv_iload_n hx hb dL_law_341 rfl (lv_at hl 3 rfl) ?_
  refine lv_iconst (v := 2) hx hb dL_law_342 (by decide) ?_
  refine lv_iadd hx hb dL_law_343 ?_
  refine zl_ld hC hX hbl hV h2 e2 dL_law_344 ?_
  refine lv_aload_n hx hb dL_law_345 rfl (lv_at hl 0 rfl) ?_
  refine lv_iload_n hx hb dL_law_346 rfl (lv_at hl 3 rfl) ?_
  refine lv_iconst (v := 3) hx hb dL_law_347 (by decide) ?_
  refine lv_iadd hx hb dL_law_348 ?_
  refine zl_ld hC hX hbl hV h3 e3 dL_law_349 ?_
  obtain ⟨r, σ1, τ1, hq1, hq2, hR⟩ := T_hold hR a1 a2 a3
  refine zl_ai hL hV (zl_run (u := 0) (As := [.int a1, .int a2, .int a3]) (rest := []) hC hV.1 hV.2.2 hL.1 (by decide +kernel) (mX7_hold a1 a2 a3 σ hL.2.2.1 hq1) cv_L_31 zck_0_0 rfl ⟨⟨rfl, rfl⟩, Nat.le_of_ble_eq_true rfl, Nat.le_of_ble_eq_true rfl⟩ (zlv_size hl) rfl (Nat.le_of_ble_eq_true rfl) dL_law_350) (fun H locs hV => ?_)
  refine lv_aload_n hx hb dL_law_353 rfl (lv_at hl 2 rfl) ?_
  refine lv_aload_n hx hb dL_law_354 rfl (lv_at hl 0 rfl) ?_
  refine lv_iload_n hx hb dL_law_355 rfl (lv_at hl 3 rfl) ?_
  refine lv_iconst (v := 1) hx hb dL_law_356 (by decide) ?_
  refine lv_iadd hx hb dL_law_357 ?_
  refine zl_ld hC hX hbl hV h1 e1 dL_law_358 ?_
  refine lv_aload_n hx hb dL_law_359 rfl (lv_at hl 0 rfl) ?_
  refine lv_iload_n hx hb dL_law_360 rfl (lv_at hl 3 rfl) ?_
  refine lv_iconst (v := 2) hx hb dL_law_361 (by decide) ?_
  refine lv_iadd hx hb dL_law_362 ?_
  refine zl_ld hC hX hbl hV h2 e2 dL_law_363 ?_
  refine lv_aload_n hx hb dL_law_364 rfl (lv_at hl 0 rfl) ?_
  refine lv_iload_n hx hb dL_law_365 rfl (lv_at hl 3 rfl) ?_
  refine lv_iconst (v := 3) hx hb dL_law_366 (by decide) ?_
  refine lv_iadd hx hb dL_law_367 ?_
  refine zl_ld hC hX hbl hV h3 e3 dL_law_368 ?_
  refine zl_bi hL hV (zl_run (u := 1) (As := [.int a1, .int a2, .int a3]) (rest := [.int r]) hC hV.2.1 hV.2.2 hL.2.1 (by decide +kernel) (mX8_hold a1 a2 a3 τ hL.2.2.2.1 hq2) cv_L_34 zck_1_0 rfl ⟨⟨rfl, rfl⟩, Nat.le_of_ble_eq_true rfl, Nat.le_of_ble_eq_true rfl⟩ (zlv_size hl) rfl (Nat.le_of_ble_eq_true rfl) dL_law_369) (fun H locs hV => ?_)
  refine lv_icmp_eq (tgt := 1335) hx hb dL_law_372 (by decide) (fun _ => ?_) (fun hc => absurd rfl hc)
  refine lv_iinc (v := nI (i + 6)) (lv' := [(3, .int (nI (i + 6))), (0, .ref b), (1, .ref (adA 0)), (2, .ref (adB 0))]) hx hb dL_law_1335 hl (k := 3) rfl (nI_add i 6) (by decide) rfl (fun ls hl => ?_)
  refine lv_goto (tgt := 18) hx hb dL_law_1338 (by decide) ?_
  exact ih (i + 6) _ σ1 τ1 (by omega) (by omega) hR _ _ hV ls (lv_sub hl [1, 2, 3, 0] rfl) rfl

set_option maxHeartbeats 4000000 in
set_option maxRecDepth 100000 in
theorem lw_case_5 {p : Program} {l : Launch} {e : Env} {s : State} {m : MethodId} {below : List Frame} {meth : Method} {c : Code} {b L : Nat} {xs : Nat → Int32} {D : va_G} {cI cJ : ClassId} {adA adB : Nat → Nat} (hC : zLx p s m c #[Value.ref b] D cI cJ) (hL : zLa s adA adB) (hX : va_X b L xs s s.heap) (hbl : b < s.heap.size) (hLL : L ≤ 3072) {n : Nat}
    (ih : ∀ (i : Nat) (x3 : Int32) (σ τ : zkS), i ≤ L → L + 1 ≤ i + n → zRel σ τ → ∀ (H : Heap) (locs : List Loc), zLo D cI cJ adA adB s σ τ H locs → ∀ (ls : Array Slot), lv_has ls 4 [(0, .ref b), (1, .ref (adA 0)), (2, .ref (adB 0)), (3, .int x3)] → x3 = nI i → W p l e room_1 s m #[Value.ref b] below meth c H locs 68 4074 (lw_Z below #[Value.ref b] s) (F0 m 18 ls [])) {i : Nat} {σ τ : zkS} (hi6 : i + 6 ≤ L) (hin : L + 1 ≤ i + (n + 1)) (hR : zRel σ τ) {a1 a2 a3 a4 a5 : Int32} (e1 : xs ((nI i) + 1).toNatClampNeg = a1) (e2 : xs ((nI i) + 2).toNatClampNeg = a2) (e3 : xs ((nI i) + 3).toNatClampNeg = a3) (e4 : xs ((nI i) + 4).toNatClampNeg = a4) (e5 : xs ((nI i) + 5).toNatClampNeg = a5)
    {H : Heap} {locs : List Loc} (hV : zLo D cI cJ adA adB s σ τ H locs) {ls : Array Slot} (hl : lv_has ls 4 [(0, .ref b), (1, .ref (adA 0)), (2, .ref (adB 0)), (3, .int (nI i))]) : W p l e room_1 s m #[Value.ref b] below meth c H locs 68 4074 (lw_Z below #[Value.ref b] s) (F0 m 377 ls []) := by
  have hx := hC.1
  have hb := hC.2.1
  have h1 : vp_in ((nI i) + 1) L := zl_in (k := 1) hi6 hLL (by decide)
  have h2 : vp_in ((nI i) + 2) L := zl_in (k := 2) hi6 hLL (by decide)
  have h3 : vp_in ((nI i) + 3) L := zl_in (k := 3) hi6 hLL (by decide)
  have h4 : vp_in ((nI i) + 4) L := zl_in (k := 4) hi6 hLL (by decide)
  have h5 : vp_in ((nI i) + 5) L := zl_in (k := 5) hi6 hLL (by decide)
  refine lv_aload_n hx hb dL_law_377 rfl (lv_at hl 1 rfl) ?_
  refine lv_aload_n hx hb dL_law_378 rfl (lv_at hl 0 rfl) ?_
  refine lv_iload_n hx hb dL_law_379 rfl (lv_at hl 3 rfl) ?_
  refine lv_iconst (v := 1) hx hb dL_law_380 (by decide) ?_
  refine lv_iadd hx hb dL_law_381 ?_
  refine zl_ld hC hX hbl hV h1 e1 dL_law_382 ?_
  refine lv_aload_n hx hb dL_law_383 rfl (lv_at hl 0 rfl) ?_
  refine lv_iload_n hx hb dL_law_384 rfl (lv_at hl 3 rfl) ?_
  refine lv_iconst (v := 2) hx hb dL_law_385 (by decide) ?_
  refine lv_iadd hx hb dL_law_386 ?_
  refine zl_ld hC hX hbl hV h2 e2 dL_law_387 ?_
  obtain ⟨r, σ1, τ1, hq1, hq2, hR⟩ := T_tag hR a1 a2
  refine zl_ai hL hV (zl_run (u := 0) (As := [.int a1, .int a2]) (rest := []) hC hV.1 hV.2.2 hL.1 (by decide +kernel) (mX7_tag a1 a2 σ hL.2.2.1 hq1) cv_L_35 zck_0_0 rfl ⟨⟨rfl, rfl⟩, Nat.le_of_ble_eq_true rfl, Nat.le_of_ble_eq_true rfl⟩ (zlv_size hl) rfl (Nat.le_of_ble_eq_true rfl) dL_law_388) (fun H locs hV => ?_)
  refine lv_aload_n hx hb dL_law_391 rfl (lv_at hl 2 rfl) ?_
  refine lv_aload_n hx hb dL_law_392 rfl (lv_at hl 0 rfl) ?_
  refine lv_iload_n hx hb dL_law_393 rfl (lv_at hl 3 rfl) ?_
  refine lv_iconst (v := 1) hx hb dL_law_394 (by decide) ?_
  refine lv_iadd hx hb dL_law_395 ?_
  refine zl_ld hC hX hbl hV h1 e1 dL_law_396 ?_
  refine lv_aload_n hx hb dL_law_397 rfl (lv_at hl 0 rfl) ?_
  refine lv_iload_n hx hb dL_law_398 rfl (lv_at hl 3 rfl) ?_
  refine lv_iconst (v := 2) hx hb dL_law_399 (by decide) ?_
  refine lv_iadd hx hb dL_law_400 ?_
  refine zl_ld hC hX hbl hV h2 e2 dL_law_401 ?_
  refine zl_bi hL hV (zl_run (u := 1) (As := [.int a1, .int a2]) (rest := [.int r]) hC hV.2.1 hV.2.2 hL.2.1 (by decide +kernel) (mX8_tag a1 a2 τ hL.2.2.2.1 hq2) cv_L_38 zck_1_0 rfl ⟨⟨rfl, rfl⟩, Nat.le_of_ble_eq_true rfl, Nat.le_of_ble_eq_true rfl⟩ (zlv_size hl) rfl (Nat.le_of_ble_eq_true rfl) dL_law_402) (fun H locs hV => ?_)
  refine lv_icmp_eq (tgt := 1335) hx hb dL_law_405 (by decide) (fun _ => ?_) (fun hc => absurd rfl hc)
  refine lv_iinc (v := nI (i + 6)) (lv' := [(3, .int (nI (i + 6))), (0, .ref b), (1, .ref (adA 0)), (2, .ref (adB 0))]) hx hb dL_law_1335 hl (k := 3) rfl (nI_add i 6) (by decide) rfl (fun ls hl => ?_)
  refine lv_goto (tgt := 18) hx hb dL_law_1338 (by decide) ?_
  exact ih (i + 6) _ σ1 τ1 (by omega) (by omega) hR _ _ hV ls (lv_sub hl [1, 2, 3, 0] rfl) rfl

set_option maxHeartbeats 4000000 in
set_option maxRecDepth 100000 in
theorem lw_case_6 {p : Program} {l : Launch} {e : Env} {s : State} {m : MethodId} {below : List Frame} {meth : Method} {c : Code} {b L : Nat} {xs : Nat → Int32} {D : va_G} {cI cJ : ClassId} {adA adB : Nat → Nat} (hC : zLx p s m c #[Value.ref b] D cI cJ) (hL : zLa s adA adB) (hX : va_X b L xs s s.heap) (hbl : b < s.heap.size) (hLL : L ≤ 3072) {n : Nat}
    (ih : ∀ (i : Nat) (x3 : Int32) (σ τ : zkS), i ≤ L → L + 1 ≤ i + n → zRel σ τ → ∀ (H : Heap) (locs : List Loc), zLo D cI cJ adA adB s σ τ H locs → ∀ (ls : Array Slot), lv_has ls 4 [(0, .ref b), (1, .ref (adA 0)), (2, .ref (adB 0)), (3, .int x3)] → x3 = nI i → W p l e room_1 s m #[Value.ref b] below meth c H locs 68 4074 (lw_Z below #[Value.ref b] s) (F0 m 18 ls [])) {i : Nat} {σ τ : zkS} (hi6 : i + 6 ≤ L) (hin : L + 1 ≤ i + (n + 1)) (hR : zRel σ τ) {a1 a2 a3 a4 a5 : Int32} (e1 : xs ((nI i) + 1).toNatClampNeg = a1) (e2 : xs ((nI i) + 2).toNatClampNeg = a2) (e3 : xs ((nI i) + 3).toNatClampNeg = a3) (e4 : xs ((nI i) + 4).toNatClampNeg = a4) (e5 : xs ((nI i) + 5).toNatClampNeg = a5)
    {H : Heap} {locs : List Loc} (hV : zLo D cI cJ adA adB s σ τ H locs) {ls : Array Slot} (hl : lv_has ls 4 [(0, .ref b), (1, .ref (adA 0)), (2, .ref (adB 0)), (3, .int (nI i))]) : W p l e room_1 s m #[Value.ref b] below meth c H locs 68 4074 (lw_Z below #[Value.ref b] s) (F0 m 410 ls []) := by
  have hx := hC.1
  have hb := hC.2.1
  have h1 : vp_in ((nI i) + 1) L := zl_in (k := 1) hi6 hLL (by decide)
  have h2 : vp_in ((nI i) + 2) L := zl_in (k := 2) hi6 hLL (by decide)
  have h3 : vp_in ((nI i) + 3) L := zl_in (k := 3) hi6 hLL (by decide)
  have h4 : vp_in ((nI i) + 4) L := zl_in (k := 4) hi6 hLL (by decide)
  have h5 : vp_in ((nI i) + 5) L := zl_in (k := 5) hi6 hLL (by decide)
  refine lv_aload_n hx hb dL_law_410 rfl (lv_at hl 1 rfl) ?_
  refine lv_aload_n hx hb dL_law_411 rfl (lv_at hl 0 rfl) ?_
  refine lv_iload_n hx hb dL_law_412 rfl (lv_at hl 3 rfl) ?_
  refine lv_iconst (v := 1) hx hb dL_law_413 (by decide) ?_
  refine lv_iadd hx hb dL_law_414 ?_
  refine zl_ld hC hX hbl hV h1 e1 dL_law_415 ?_
  refine lv_aload_n hx hb dL_law_416 rfl (lv_at hl 0 rfl) ?_
  refine lv_iload_n hx hb dL_law_417 rfl (lv_at hl 3 rfl) ?_
  refine lv_iconst (v := 2) hx hb dL_law_418 (by decide) ?_
  refine lv_iadd hx hb dL_law_419 ?_
  refine zl_ld hC hX hbl hV h2 e2 dL_law_420 ?_
  obtain ⟨r, σ1, τ1, hq1, hq2, hR⟩ := T_root hR a1 a2
  refine zl_ai hL hV (zl_run (u := 0) (As := [.int a1, .int a2]) (rest := []) hC hV.1 hV.2.2 hL.1 (by decide +kernel) (mX7_root a1 a2 σ hL.2.2.1 hq1) cv_L_39 zck_0_0 rfl ⟨⟨rfl, rfl⟩, Nat.le_of_ble_eq_true rfl, Nat.le_of_ble_eq_true rfl⟩ (zlv_size hl) rfl (Nat.le_of_ble_eq_true rfl) dL_law_421) (fun H locs hV => ?_)
  refine lv_aload_n hx hb dL_law_424 rfl (lv_at hl 2 rfl) ?_
  refine lv_aload_n hx hb dL_law_425 rfl (lv_at hl 0 rfl) ?_
  refine lv_iload_n hx hb dL_law_426 rfl (lv_at hl 3 rfl) ?_
  refine lv_iconst (v := 1) hx hb dL_law_427 (by decide) ?_
  refine lv_iadd hx hb dL_law_428 ?_
  refine zl_ld hC hX hbl hV h1 e1 dL_law_429 ?_
  refine lv_aload_n hx hb dL_law_430 rfl (lv_at hl 0 rfl) ?_
  refine lv_iload_n hx hb dL_law_431 rfl (lv_at hl 3 rfl) ?_
  refine lv_iconst (v := 2) hx hb dL_law_432 (by decide) ?_
  refine lv_iadd hx hb dL_law_433 ?_
  refine zl_ld hC hX hbl hV h2 e2 dL_law_434 ?_
  refine zl_bi hL hV (zl_run (u := 1) (As := [.int a1, .int a2]) (rest := [.int r]) hC hV.2.1 hV.2.2 hL.2.1 (by decide +kernel) (mX8_root a1 a2 τ hL.2.2.2.1 hq2) cv_L_42 zck_1_0 rfl ⟨⟨rfl, rfl⟩, Nat.le_of_ble_eq_true rfl, Nat.le_of_ble_eq_true rfl⟩ (zlv_size hl) rfl (Nat.le_of_ble_eq_true rfl) dL_law_435) (fun H locs hV => ?_)
  refine lv_icmp_eq (tgt := 1335) hx hb dL_law_438 (by decide) (fun _ => ?_) (fun hc => absurd rfl hc)
  refine lv_iinc (v := nI (i + 6)) (lv' := [(3, .int (nI (i + 6))), (0, .ref b), (1, .ref (adA 0)), (2, .ref (adB 0))]) hx hb dL_law_1335 hl (k := 3) rfl (nI_add i 6) (by decide) rfl (fun ls hl => ?_)
  refine lv_goto (tgt := 18) hx hb dL_law_1338 (by decide) ?_
  exact ih (i + 6) _ σ1 τ1 (by omega) (by omega) hR _ _ hV ls (lv_sub hl [1, 2, 3, 0] rfl) rfl

set_option maxHeartbeats 4000000 in
set_option maxRecDepth 100000 in
theorem lw_case_7 {p : Program} {l : Launch} {e : Env} {s : State} {m : MethodId} {below : List Frame} {meth : Method} {c : Code} {b L : Nat} {xs : Nat → Int32} {D : va_G} {cI cJ : ClassId} {adA adB : Nat → Nat} (hC : zLx p s m c #[Value.ref b] D cI cJ) (hL : zLa s adA adB) (hX : va_X b L xs s s.heap) (hbl : b < s.heap.size) (hLL : L ≤ 3072) {n : Nat}
    (ih : ∀ (i : Nat) (x3 : Int32) (σ τ : zkS), i ≤ L → L + 1 ≤ i + n → zRel σ τ → ∀ (H : Heap) (locs : List Loc), zLo D cI cJ adA adB s σ τ H locs → ∀ (ls : Array Slot), lv_has ls 4 [(0, .ref b), (1, .ref (adA 0)), (2, .ref (adB 0)), (3, .int x3)] → x3 = nI i → W p l e room_1 s m #[Value.ref b] below meth c H locs 68 4074 (lw_Z below #[Value.ref b] s) (F0 m 18 ls [])) {i : Nat} {σ τ : zkS} (hi6 : i + 6 ≤ L) (hin : L + 1 ≤ i + (n + 1)) (hR : zRel σ τ) {a1 a2 a3 a4 a5 : Int32} (e1 : xs ((nI i) + 1).toNatClampNeg = a1) (e2 : xs ((nI i) + 2).toNatClampNeg = a2) (e3 : xs ((nI i) + 3).toNatClampNeg = a3) (e4 : xs ((nI i) + 4).toNatClampNeg = a4) (e5 : xs ((nI i) + 5).toNatClampNeg = a5)
    {H : Heap} {locs : List Loc} (hV : zLo D cI cJ adA adB s σ τ H locs) {ls : Array Slot} (hl : lv_has ls 4 [(0, .ref b), (1, .ref (adA 0)), (2, .ref (adB 0)), (3, .int (nI i))]) : W p l e room_1 s m #[Value.ref b] below meth c H locs 68 4074 (lw_Z below #[Value.ref b] s) (F0 m 443 ls []) := by
  have hx := hC.1
  have hb := hC.2.1
  have h1 : vp_in ((nI i) + 1) L := zl_in (k := 1) hi6 hLL (by decide)
  have h2 : vp_in ((nI i) + 2) L := zl_in (k := 2) hi6 hLL (by decide)
  have h3 : vp_in ((nI i) + 3) L := zl_in (k := 3) hi6 hLL (by decide)
  have h4 : vp_in ((nI i) + 4) L := zl_in (k := 4) hi6 hLL (by decide)
  have h5 : vp_in ((nI i) + 5) L := zl_in (k := 5) hi6 hLL (by decide)
  refine lv_aload_n hx hb dL_law_443 rfl (lv_at hl 1 rfl) ?_
  refine lv_aload_n hx hb dL_law_444 rfl (lv_at hl 0 rfl) ?_
  refine lv_iload_n hx hb dL_law_445 rfl (lv_at hl 3 rfl) ?_
  refine lv_iconst (v := 1) hx hb dL_law_446 (by decide) ?_
  refine lv_iadd hx hb dL_law_447 ?_
  refine zl_ld hC hX hbl hV h1 e1 dL_law_448 ?_
  refine lv_aload_n hx hb dL_law_449 rfl (lv_at hl 0 rfl) ?_
  refine lv_iload_n hx hb dL_law_450 rfl (lv_at hl 3 rfl) ?_
  refine lv_iconst (v := 2) hx hb dL_law_451 (by decide) ?_
  refine lv_iadd hx hb dL_law_452 ?_
  refine zl_ld hC hX hbl hV h2 e2 dL_law_453 ?_
  refine lv_if_eq (tgt := 461) hx hb dL_law_454 (by decide) (fun hz => ?_) (fun hz => ?_)
  · skip
    refine lv_iconst (v := 0) hx hb dL_law_461 (by decide) ?_
    obtain ⟨r, σ1, τ1, hq1, hq2, hR⟩ := T_pin hR a1 0
    refine zl_ai hL hV (zl_run (u := 0) (As := [.int a1, .int 0]) (rest := []) hC hV.1 hV.2.2 hL.1 (by decide +kernel) (mX7_pin a1 0 σ hL.2.2.1 hq1) cv_L_43 zck_0_0 rfl ⟨⟨rfl, rfl⟩, Nat.le_of_ble_eq_true rfl, Nat.le_of_ble_eq_true rfl⟩ (zlv_size hl) rfl (Nat.le_of_ble_eq_true rfl) dL_law_462) (fun H locs hV => ?_)
    refine lv_aload_n hx hb dL_law_465 rfl (lv_at hl 2 rfl) ?_
    refine lv_aload_n hx hb dL_law_466 rfl (lv_at hl 0 rfl) ?_
    refine lv_iload_n hx hb dL_law_467 rfl (lv_at hl 3 rfl) ?_
    refine lv_iconst (v := 1) hx hb dL_law_468 (by decide) ?_
    refine lv_iadd hx hb dL_law_469 ?_
    refine zl_ld hC hX hbl hV h1 e1 dL_law_470 ?_
    refine lv_aload_n hx hb dL_law_471 rfl (lv_at hl 0 rfl) ?_
    refine lv_iload_n hx hb dL_law_472 rfl (lv_at hl 3 rfl) ?_
    refine lv_iconst (v := 2) hx hb dL_law_473 (by decide) ?_
    refine lv_iadd hx hb dL_law_474 ?_
    refine zl_ld hC hX hbl hV h2 e2 dL_law_475 ?_
    refine lv_if_eq (tgt := 483) hx hb dL_law_476 (by decide) (fun _ => ?_) (fun hc => absurd hz hc)
    refine lv_iconst (v := 0) hx hb dL_law_483 (by decide) ?_
    refine zl_bi hL hV (zl_run (u := 1) (As := [.int a1, .int 0]) (rest := [.int r]) hC hV.2.1 hV.2.2 hL.2.1 (by decide +kernel) (mX8_pin a1 0 τ hL.2.2.2.1 hq2) cv_L_47 zck_1_0 rfl ⟨⟨rfl, rfl⟩, Nat.le_of_ble_eq_true rfl, Nat.le_of_ble_eq_true rfl⟩ (zlv_size hl) rfl (Nat.le_of_ble_eq_true rfl) dL_law_484) (fun H locs hV => ?_)
    refine lv_icmp_eq (tgt := 1335) hx hb dL_law_487 (by decide) (fun _ => ?_) (fun hc => absurd rfl hc)
    refine lv_iinc (v := nI (i + 6)) (lv' := [(3, .int (nI (i + 6))), (0, .ref b), (1, .ref (adA 0)), (2, .ref (adB 0))]) hx hb dL_law_1335 hl (k := 3) rfl (nI_add i 6) (by decide) rfl (fun ls hl => ?_)
    refine lv_goto (tgt := 18) hx hb dL_law_1338 (by decide) ?_
    exact ih (i + 6) _ σ1 τ1 (by omega) (by omega) hR _ _ hV ls (lv_sub hl [1, 2, 3, 0] rfl) rfl
  · skip
    refine lv_iconst (v := 1) hx hb dL_law_457 (by decide) ?_
    refine lv_goto (tgt := 462) hx hb dL_law_458 (by decide) ?_
    obtain ⟨r, σ1, τ1, hq1, hq2, hR⟩ := T_pin hR a1 1
    refine zl_ai hL hV (zl_run (u := 0) (As := [.int a1, .int 1]) (rest := []) hC hV.1 hV.2.2 hL.1 (by decide +kernel) (mX7_pin a1 1 σ hL.2.2.1 hq1) cv_L_43 zck_0_0 rfl ⟨⟨rfl, rfl⟩, Nat.le_of_ble_eq_true rfl, Nat.le_of_ble_eq_true rfl⟩ (zlv_size hl) rfl (Nat.le_of_ble_eq_true rfl) dL_law_462) (fun H locs hV => ?_)
    refine lv_aload_n hx hb dL_law_465 rfl (lv_at hl 2 rfl) ?_
    refine lv_aload_n hx hb dL_law_466 rfl (lv_at hl 0 rfl) ?_
    refine lv_iload_n hx hb dL_law_467 rfl (lv_at hl 3 rfl) ?_
    refine lv_iconst (v := 1) hx hb dL_law_468 (by decide) ?_
    refine lv_iadd hx hb dL_law_469 ?_
    refine zl_ld hC hX hbl hV h1 e1 dL_law_470 ?_
    refine lv_aload_n hx hb dL_law_471 rfl (lv_at hl 0 rfl) ?_
    refine lv_iload_n hx hb dL_law_472 rfl (lv_at hl 3 rfl) ?_
    refine lv_iconst (v := 2) hx hb dL_law_473 (by decide) ?_
    refine lv_iadd hx hb dL_law_474 ?_
    refine zl_ld hC hX hbl hV h2 e2 dL_law_475 ?_
    refine lv_if_eq (tgt := 483) hx hb dL_law_476 (by decide) (fun hc => absurd hc hz) (fun _ => ?_)
    refine lv_iconst (v := 1) hx hb dL_law_479 (by decide) ?_
    refine lv_goto (tgt := 484) hx hb dL_law_480 (by decide) ?_
    refine zl_bi hL hV (zl_run (u := 1) (As := [.int a1, .int 1]) (rest := [.int r]) hC hV.2.1 hV.2.2 hL.2.1 (by decide +kernel) (mX8_pin a1 1 τ hL.2.2.2.1 hq2) cv_L_47 zck_1_0 rfl ⟨⟨rfl, rfl⟩, Nat.le_of_ble_eq_true rfl, Nat.le_of_ble_eq_true rfl⟩ (zlv_size hl) rfl (Nat.le_of_ble_eq_true rfl) dL_law_484) (fun H locs hV => ?_)
    refine lv_icmp_eq (tgt := 1335) hx hb dL_law_487 (by decide) (fun _ => ?_) (fun hc => absurd rfl hc)
    refine lv_iinc (v := nI (i + 6)) (lv' := [(3, .int (nI (i + 6))), (0, .ref b), (1, .ref (adA 0)), (2, .ref (adB 0))]) hx hb dL_law_1335 hl (k := 3) rfl (nI_add i 6) (by decide) rfl (fun ls hl => ?_)
    refine lv_goto (tgt := 18) hx hb dL_law_1338 (by decide) ?_
    exact ih (i + 6) _ σ1 τ1 (by omega) (by omega) hR _ _ hV ls (lv_sub hl [1, 2, 3, 0] rfl) rfl

set_option maxHeartbeats 4000000 in
set_option maxRecDepth 100000 in
theorem lw_case_8 {p : Program} {l : Launch} {e : Env} {s : State} {m : MethodId} {below : List Frame} {meth : Method} {c : Code} {b L : Nat} {xs : Nat → Int32} {D : va_G} {cI cJ : ClassId} {adA adB : Nat → Nat} (hC : zLx p s m c #[Value.ref b] D cI cJ) (hL : zLa s adA adB) (hX : va_X b L xs s s.heap) (hbl : b < s.heap.size) (hLL : L ≤ 3072) {n : Nat}
    (ih : ∀ (i : Nat) (x3 : Int32) (σ τ : zkS), i ≤ L → L + 1 ≤ i + n → zRel σ τ → ∀ (H : Heap) (locs : List Loc), zLo D cI cJ adA adB s σ τ H locs → ∀ (ls : Array Slot), lv_has ls 4 [(0, .ref b), (1, .ref (adA 0)), (2, .ref (adB 0)), (3, .int x3)] → x3 = nI i → W p l e room_1 s m #[Value.ref b] below meth c H locs 68 4074 (lw_Z below #[Value.ref b] s) (F0 m 18 ls [])) {i : Nat} {σ τ : zkS} (hi6 : i + 6 ≤ L) (hin : L + 1 ≤ i + (n + 1)) (hR : zRel σ τ) {a1 a2 a3 a4 a5 : Int32} (e1 : xs ((nI i) + 1).toNatClampNeg = a1) (e2 : xs ((nI i) + 2).toNatClampNeg = a2) (e3 : xs ((nI i) + 3).toNatClampNeg = a3) (e4 : xs ((nI i) + 4).toNatClampNeg = a4) (e5 : xs ((nI i) + 5).toNatClampNeg = a5)
    {H : Heap} {locs : List Loc} (hV : zLo D cI cJ adA adB s σ τ H locs) {ls : Array Slot} (hl : lv_has ls 4 [(0, .ref b), (1, .ref (adA 0)), (2, .ref (adB 0)), (3, .int (nI i))]) : W p l e room_1 s m #[Value.ref b] below meth c H locs 68 4074 (lw_Z below #[Value.ref b] s) (F0 m 492 ls []) := by
  have hx := hC.1
  have hb := hC.2.1
  have h1 : vp_in ((nI i) + 1) L := zl_in (k := 1) hi6 hLL (by decide)
  have h2 : vp_in ((nI i) + 2) L := zl_in (k := 2) hi6 hLL (by decide)
  have h3 : vp_in ((nI i) + 3) L := zl_in (k := 3) hi6 hLL (by decide)
  have h4 : vp_in ((nI i) + 4) L := zl_in (k := 4) hi6 hLL (by decide)
  have h5 : vp_in ((nI i) + 5) L := zl_in (k := 5) hi6 hLL (by decide)
  refine lv_aload_n hx hb dL_law_492 rfl (lv_at hl 1 rfl) ?_
  refine lv_aload_n hx hb dL_law_493 rfl (lv_at hl 0 rfl) ?_
  refine lv_iload_n hx hb dL_law_494 rfl (lv_at hl 3 rfl) ?_
  refine lv_iconst (v := 1) hx hb dL_law_495 (by decide) ?_
  refine lv_iadd hx hb dL_law_496 ?_
  refine zl_ld hC hX hbl hV h1 e1 dL_law_497 ?_
  obtain ⟨r, σ1, τ1, hq1, hq2, hR⟩ := T_feed hR a1
  refine zl_ai hL hV (zl_run (u := 0) (As := [.int a1]) (rest := []) hC hV.1 hV.2.2 hL.1 (by decide +kernel) (mX7_feed a1 σ hL.2.2.1 hq1) cv_L_48 zck_0_0 rfl ⟨⟨rfl, rfl⟩, Nat.le_of_ble_eq_true rfl, Nat.le_of_ble_eq_true rfl⟩ (zlv_size hl) rfl (Nat.le_of_ble_eq_true rfl) dL_law_498) (fun H locs hV => ?_)
  refine lv_aload_n hx hb dL_law_501 rfl (lv_at hl 2 rfl) ?_
  refine lv_aload_n hx hb dL_law_502 rfl (lv_at hl 0 rfl) ?_
  refine lv_iload_n hx hb dL_law_503 rfl (lv_at hl 3 rfl) ?_
  refine lv_iconst (v := 1) hx hb dL_law_504 (by decide) ?_
  refine lv_iadd hx hb dL_law_505 ?_
  refine zl_ld hC hX hbl hV h1 e1 dL_law_506 ?_
  refine zl_bi hL hV (zl_run (u := 1) (As := [.int a1]) (rest := [.int r]) hC hV.2.1 hV.2.2 hL.2.1 (by decide +kernel) (mX8_feed a1 τ hL.2.2.2.1 hq2) cv_L_52 zck_1_0 rfl ⟨⟨rfl, rfl⟩, Nat.le_of_ble_eq_true rfl, Nat.le_of_ble_eq_true rfl⟩ (zlv_size hl) rfl (Nat.le_of_ble_eq_true rfl) dL_law_507) (fun H locs hV => ?_)
  refine lv_icmp_eq (tgt := 1335) hx hb dL_law_510 (by decide) (fun _ => ?_) (fun hc => absurd rfl hc)
  refine lv_iinc (v := nI (i + 6)) (lv' := [(3, .int (nI (i + 6))), (0, .ref b), (1, .ref (adA 0)), (2, .ref (adB 0))]) hx hb dL_law_1335 hl (k := 3) rfl (nI_add i 6) (by decide) rfl (fun ls hl => ?_)
  refine lv_goto (tgt := 18) hx hb dL_law_1338 (by decide) ?_
  exact ih (i + 6) _ σ1 τ1 (by omega) (by omega) hR _ _ hV ls (lv_sub hl [1, 2, 3, 0] rfl) rfl

set_option maxHeartbeats 4000000 in
set_option maxRecDepth 100000 in
theorem lw_case_9 {p : Program} {l : Launch} {e : Env} {s : State} {m : MethodId} {below : List Frame} {meth : Method} {c : Code} {b L : Nat} {xs : Nat → Int32} {D : va_G} {cI cJ : ClassId} {adA adB : Nat → Nat} (hC : zLx p s m c #[Value.ref b] D cI cJ) (hL : zLa s adA adB) (hX : va_X b L xs s s.heap) (hbl : b < s.heap.size) (hLL : L ≤ 3072) {n : Nat}
    (ih : ∀ (i : Nat) (x3 : Int32) (σ τ : zkS), i ≤ L → L + 1 ≤ i + n → zRel σ τ → ∀ (H : Heap) (locs : List Loc), zLo D cI cJ adA adB s σ τ H locs → ∀ (ls : Array Slot), lv_has ls 4 [(0, .ref b), (1, .ref (adA 0)), (2, .ref (adB 0)), (3, .int x3)] → x3 = nI i → W p l e room_1 s m #[Value.ref b] below meth c H locs 68 4074 (lw_Z below #[Value.ref b] s) (F0 m 18 ls [])) {i : Nat} {σ τ : zkS} (hi6 : i + 6 ≤ L) (hin : L + 1 ≤ i + (n + 1)) (hR : zRel σ τ) {a1 a2 a3 a4 a5 : Int32} (e1 : xs ((nI i) + 1).toNatClampNeg = a1) (e2 : xs ((nI i) + 2).toNatClampNeg = a2) (e3 : xs ((nI i) + 3).toNatClampNeg = a3) (e4 : xs ((nI i) + 4).toNatClampNeg = a4) (e5 : xs ((nI i) + 5).toNatClampNeg = a5)
    {H : Heap} {locs : List Loc} (hV : zLo D cI cJ adA adB s σ τ H locs) {ls : Array Slot} (hl : lv_has ls 4 [(0, .ref b), (1, .ref (adA 0)), (2, .ref (adB 0)), (3, .int (nI i))]) : W p l e room_1 s m #[Value.ref b] below meth c H locs 68 4074 (lw_Z below #[Value.ref b] s) (F0 m 515 ls []) := by
  have hx := hC.1
  have hb := hC.2.1
  have h1 : vp_in ((nI i) + 1) L := zl_in (k := 1) hi6 hLL (by decide)
  have h2 : vp_in ((nI i) + 2) L := zl_in (k := 2) hi6 hLL (by decide)
  have h3 : vp_in ((nI i) + 3) L := zl_in (k := 3) hi6 hLL (by decide)
  have h4 : vp_in ((nI i) + 4) L := zl_in (k := 4) hi6 hLL (by decide)
  have h5 : vp_in ((nI i) + 5) L := zl_in (k := 5) hi6 hLL (by decide)
  refine lv_aload_n hx hb dL_law_515 rfl (lv_at hl 1 rfl) ?_
  refine lv_aload_n hx hb dL_law_516 rfl (lv_at hl 0 rfl) ?_
  refine lv_iload_n hx hb dL_law_517 rfl (lv_at hl 3 rfl) ?_
  refine lv_iconst (v := 1) hx hb dL_law_518 (by decide) ?_
  refine lv_iadd hx hb dL_law_519 ?_
  refine zl_ld hC hX hbl hV h1 e1 dL_law_520 ?_
  obtain ⟨r, σ1, τ1, hq1, hq2, hR⟩ := T_build hR a1
  refine zl_ai hL hV (zl_run (u := 0) (As := [.int a1]) (rest := []) hC hV.1 hV.2.2 hL.1 (by decide +kernel) (mX7_build a1 σ hL.2.2.1 hq1) cv_L_53 zck_0_0 rfl ⟨⟨rfl, rfl⟩, Nat.le_of_ble_eq_true rfl, Nat.le_of_ble_eq_true rfl⟩ (zlv_size hl) rfl (Nat.le_of_ble_eq_true rfl) dL_law_521) (fun H locs hV => ?_)
  refine lv_aload_n hx hb dL_law_524 rfl (lv_at hl 2 rfl) ?_
  refine lv_aload_n hx hb dL_law_525 rfl (lv_at hl 0 rfl) ?_
  refine lv_iload_n hx hb dL_law_526 rfl (lv_at hl 3 rfl) ?_
  refine lv_iconst (v := 1) hx hb dL_law_527 (by decide) ?_
  refine lv_iadd hx hb dL_law_528 ?_
  refine zl_ld hC hX hbl hV h1 e1 dL_law_529 ?_
  refine zl_bi hL hV (zl_run (u := 1) (As := [.int a1]) (rest := [.int r]) hC hV.2.1 hV.2.2 hL.2.1 (by decide +kernel) (mX8_build a1 τ hL.2.2.2.1 hq2) cv_L_56 zck_1_0 rfl ⟨⟨rfl, rfl⟩, Nat.le_of_ble_eq_true rfl, Nat.le_of_ble_eq_true rfl⟩ (zlv_size hl) rfl (Nat.le_of_ble_eq_true rfl) dL_law_530) (fun H locs hV => ?_)
  refine lv_icmp_eq (tgt := 1335) hx hb dL_law_533 (by decide) (fun _ => ?_) (fun hc => absurd rfl hc)
  refine lv_iinc (v := nI (i + 6)) (lv' := [(3, .int (nI (i + 6))), (0, .ref b), (1, .ref (adA 0)), (2, .ref (adB 0))]) hx hb dL_law_1335 hl (k := 3) rfl (nI_add i 6) (by decide) rfl (fun ls hl => ?_)
  refine lv_goto (tgt := 18) hx hb dL_law_1338 (by decide) ?_
  exact ih (i + 6) _ σ1 τ1 (by omega) (by omega) hR _ _ hV ls (lv_sub hl [1, 2, 3, 0] rfl) rfl

set_option maxHeartbeats 4000000 in
set_option maxRecDepth 100000 in
theorem lw_case_10 {p : Program} {l : Launch} {e : Env} {s : State} {m : MethodId} {below : List Frame} {meth : Method} {c : Code} {b L : Nat} {xs : Nat → Int32} {D : va_G} {cI cJ : ClassId} {adA adB : Nat → Nat} (hC : zLx p s m c #[Value.ref b] D cI cJ) (hL : zLa s adA adB) (hX : va_X b L xs s s.heap) (hbl : b < s.heap.size) (hLL : L ≤ 3072) {n : Nat}
    (ih : ∀ (i : Nat) (x3 : Int32) (σ τ : zkS), i ≤ L → L + 1 ≤ i + n → zRel σ τ → ∀ (H : Heap) (locs : List Loc), zLo D cI cJ adA adB s σ τ H locs → ∀ (ls : Array Slot), lv_has ls 4 [(0, .ref b), (1, .ref (adA 0)), (2, .ref (adB 0)), (3, .int x3)] → x3 = nI i → W p l e room_1 s m #[Value.ref b] below meth c H locs 68 4074 (lw_Z below #[Value.ref b] s) (F0 m 18 ls [])) {i : Nat} {σ τ : zkS} (hi6 : i + 6 ≤ L) (hin : L + 1 ≤ i + (n + 1)) (hR : zRel σ τ) {a1 a2 a3 a4 a5 : Int32} (e1 : xs ((nI i) + 1).toNatClampNeg = a1) (e2 : xs ((nI i) + 2).toNatClampNeg = a2) (e3 : xs ((nI i) + 3).toNatClampNeg = a3) (e4 : xs ((nI i) + 4).toNatClampNeg = a4) (e5 : xs ((nI i) + 5).toNatClampNeg = a5)
    {H : Heap} {locs : List Loc} (hV : zLo D cI cJ adA adB s σ τ H locs) {ls : Array Slot} (hl : lv_has ls 4 [(0, .ref b), (1, .ref (adA 0)), (2, .ref (adB 0)), (3, .int (nI i))]) : W p l e room_1 s m #[Value.ref b] below meth c H locs 68 4074 (lw_Z below #[Value.ref b] s) (F0 m 538 ls []) := by
  have hx := hC.1
  have hb := hC.2.1
  have h1 : vp_in ((nI i) + 1) L := zl_in (k := 1) hi6 hLL (by decide)
  have h2 : vp_in ((nI i) + 2) L := zl_in (k := 2) hi6 hLL (by decide)
  have h3 : vp_in ((nI i) + 3) L := zl_in (k := 3) hi6 hLL (by decide)
  have h4 : vp_in ((nI i) + 4) L := zl_in (k := 4) hi6 hLL (by decide)
  have h5 : vp_in ((nI i) + 5) L := zl_in (k := 5) hi6 hLL (by decide)
  refine lv_aload_n hx hb dL_law_538 rfl (lv_at hl 1 rfl) ?_
  refine lv_aload_n hx hb dL_law_539 rfl (lv_at hl 0 rfl) ?_
  refine lv_iload_n hx hb dL_law_540 rfl (lv_at hl 3 rfl) ?_
  refine lv_iconst (v := 1) hx hb dL_law_541 (by decide) ?_
  refine lv_iadd hx hb dL_law_542 ?_
  refine zl_ld hC hX hbl hV h1 e1 dL_law_543 ?_
  obtain ⟨r, σ1, τ1, hq1, hq2, hR⟩ := T_begin hR a1
  refine zl_ai hL hV (zl_run (u := 0) (As := [.int a1]) (rest := []) hC hV.1 hV.2.2 hL.1 (by decide +kernel) (mX7_begin a1 σ hL.2.2.1 hq1) cv_L_57 zck_0_0 rfl ⟨⟨rfl, rfl⟩, Nat.le_of_ble_eq_true rfl, Nat.le_of_ble_eq_true rfl⟩ (zlv_size hl) rfl (Nat.le_of_ble_eq_true rfl) dL_law_544) (fun H locs hV => ?_)
  refine lv_aload_n hx hb dL_law_547 rfl (lv_at hl 2 rfl) ?_
  refine lv_aload_n hx hb dL_law_548 rfl (lv_at hl 0 rfl) ?_
  refine lv_iload_n hx hb dL_law_549 rfl (lv_at hl 3 rfl) ?_
  refine lv_iconst (v := 1) hx hb dL_law_550 (by decide) ?_
  refine lv_iadd hx hb dL_law_551 ?_
  refine zl_ld hC hX hbl hV h1 e1 dL_law_552 ?_
  refine zl_bi hL hV (zl_run (u := 1) (As := [.int a1]) (rest := [.int r]) hC hV.2.1 hV.2.2 hL.2.1 (by decide +kernel) (mX8_begin a1 τ hL.2.2.2.1 hq2) cv_L_60 zck_1_0 rfl ⟨⟨rfl, rfl⟩, Nat.le_of_ble_eq_true rfl, Nat.le_of_ble_eq_true rfl⟩ (zlv_size hl) rfl (Nat.le_of_ble_eq_true rfl) dL_law_553) (fun H locs hV => ?_)
  refine lv_icmp_eq (tgt := 1335) hx hb dL_law_556 (by decide) (fun _ => ?_) (fun hc => absurd rfl hc)
  refine lv_iinc (v := nI (i + 6)) (lv' := [(3, .int (nI (i + 6))), (0, .ref b), (1, .ref (adA 0)), (2, .ref (adB 0))]) hx hb dL_law_1335 hl (k := 3) rfl (nI_add i 6) (by decide) rfl (fun ls hl => ?_)
  refine lv_goto (tgt := 18) hx hb dL_law_1338 (by decide) ?_
  exact ih (i + 6) _ σ1 τ1 (by omega) (by omega) hR _ _ hV ls (lv_sub hl [1, 2, 3, 0] rfl) rfl

set_option maxHeartbeats 4000000 in
set_option maxRecDepth 100000 in
theorem lw_case_11 {p : Program} {l : Launch} {e : Env} {s : State} {m : MethodId} {below : List Frame} {meth : Method} {c : Code} {b L : Nat} {xs : Nat → Int32} {D : va_G} {cI cJ : ClassId} {adA adB : Nat → Nat} (hC : zLx p s m c #[Value.ref b] D cI cJ) (hL : zLa s adA adB) (hX : va_X b L xs s s.heap) (hbl : b < s.heap.size) (hLL : L ≤ 3072) {n : Nat}
    (ih : ∀ (i : Nat) (x3 : Int32) (σ τ : zkS), i ≤ L → L + 1 ≤ i + n → zRel σ τ → ∀ (H : Heap) (locs : List Loc), zLo D cI cJ adA adB s σ τ H locs → ∀ (ls : Array Slot), lv_has ls 4 [(0, .ref b), (1, .ref (adA 0)), (2, .ref (adB 0)), (3, .int x3)] → x3 = nI i → W p l e room_1 s m #[Value.ref b] below meth c H locs 68 4074 (lw_Z below #[Value.ref b] s) (F0 m 18 ls [])) {i : Nat} {σ τ : zkS} (hi6 : i + 6 ≤ L) (hin : L + 1 ≤ i + (n + 1)) (hR : zRel σ τ) {a1 a2 a3 a4 a5 : Int32} (e1 : xs ((nI i) + 1).toNatClampNeg = a1) (e2 : xs ((nI i) + 2).toNatClampNeg = a2) (e3 : xs ((nI i) + 3).toNatClampNeg = a3) (e4 : xs ((nI i) + 4).toNatClampNeg = a4) (e5 : xs ((nI i) + 5).toNatClampNeg = a5)
    {H : Heap} {locs : List Loc} (hV : zLo D cI cJ adA adB s σ τ H locs) {ls : Array Slot} (hl : lv_has ls 4 [(0, .ref b), (1, .ref (adA 0)), (2, .ref (adB 0)), (3, .int (nI i))]) : W p l e room_1 s m #[Value.ref b] below meth c H locs 68 4074 (lw_Z below #[Value.ref b] s) (F0 m 561 ls []) := by
  have hx := hC.1
  have hb := hC.2.1
  have h1 : vp_in ((nI i) + 1) L := zl_in (k := 1) hi6 hLL (by decide)
  have h2 : vp_in ((nI i) + 2) L := zl_in (k := 2) hi6 hLL (by decide)
  have h3 : vp_in ((nI i) + 3) L := zl_in (k := 3) hi6 hLL (by decide)
  have h4 : vp_in ((nI i) + 4) L := zl_in (k := 4) hi6 hLL (by decide)
  have h5 : vp_in ((nI i) + 5) L := zl_in (k := 5) hi6 hLL (by decide)
  refine lv_aload_n hx hb dL_law_561 rfl (lv_at hl 1 rfl) ?_
  refine lv_aload_n hx hb dL_law_562 rfl (lv_at hl 0 rfl) ?_
  refine lv_iload_n hx hb dL_law_563 rfl (lv_at hl 3 rfl) ?_
  refine lv_iconst (v := 1) hx hb dL_law_564 (by decide) ?_
  refine lv_iadd hx hb dL_law_565 ?_
  refine zl_ld hC hX hbl hV h1 e1 dL_law_566 ?_
  obtain ⟨r, σ1, τ1, hq1, hq2, hR⟩ := T_step hR a1
  refine zl_ai hL hV (zl_run (u := 0) (As := [.int a1]) (rest := []) hC hV.1 hV.2.2 hL.1 (by decide +kernel) (mX7_step a1 σ hL.2.2.1 hq1) cv_L_61 zck_0_0 rfl ⟨⟨rfl, rfl⟩, Nat.le_of_ble_eq_true rfl, Nat.le_of_ble_eq_true rfl⟩ (zlv_size hl) rfl (Nat.le_of_ble_eq_true rfl) dL_law_567) (fun H locs hV => ?_)
  refine lv_aload_n hx hb dL_law_570 rfl (lv_at hl 2 rfl) ?_
  refine lv_aload_n hx hb dL_law_571 rfl (lv_at hl 0 rfl) ?_
  refine lv_iload_n hx hb dL_law_572 rfl (lv_at hl 3 rfl) ?_
  refine lv_iconst (v := 1) hx hb dL_law_573 (by decide) ?_
  refine lv_iadd hx hb dL_law_574 ?_
  refine zl_ld hC hX hbl hV h1 e1 dL_law_575 ?_
  refine zl_bi hL hV (zl_run (u := 1) (As := [.int a1]) (rest := [.int r]) hC hV.2.1 hV.2.2 hL.2.1 (by decide +kernel) (mX8_step a1 τ hL.2.2.2.1 hq2) cv_L_64 zck_1_0 rfl ⟨⟨rfl, rfl⟩, Nat.le_of_ble_eq_true rfl, Nat.le_of_ble_eq_true rfl⟩ (zlv_size hl) rfl (Nat.le_of_ble_eq_true rfl) dL_law_576) (fun H locs hV => ?_)
  refine lv_icmp_eq (tgt := 1335) hx hb dL_law_579 (by decide) (fun _ => ?_) (fun hc => absurd rfl hc)
  refine lv_iinc (v := nI (i + 6)) (lv' := [(3, .int (nI (i + 6))), (0, .ref b), (1, .ref (adA 0)), (2, .ref (adB 0))]) hx hb dL_law_1335 hl (k := 3) rfl (nI_add i 6) (by decide) rfl (fun ls hl => ?_)
  refine lv_goto (tgt := 18) hx hb dL_law_1338 (by decide) ?_
  exact ih (i + 6) _ σ1 τ1 (by omega) (by omega) hR _ _ hV ls (lv_sub hl [1, 2, 3, 0] rfl) rfl

set_option maxHeartbeats 4000000 in
set_option maxRecDepth 100000 in
theorem lw_case_12 {p : Program} {l : Launch} {e : Env} {s : State} {m : MethodId} {below : List Frame} {meth : Method} {c : Code} {b L : Nat} {xs : Nat → Int32} {D : va_G} {cI cJ : ClassId} {adA adB : Nat → Nat} (hC : zLx p s m c #[Value.ref b] D cI cJ) (hL : zLa s adA adB) (hX : va_X b L xs s s.heap) (hbl : b < s.heap.size) (hLL : L ≤ 3072) {n : Nat}
    (ih : ∀ (i : Nat) (x3 : Int32) (σ τ : zkS), i ≤ L → L + 1 ≤ i + n → zRel σ τ → ∀ (H : Heap) (locs : List Loc), zLo D cI cJ adA adB s σ τ H locs → ∀ (ls : Array Slot), lv_has ls 4 [(0, .ref b), (1, .ref (adA 0)), (2, .ref (adB 0)), (3, .int x3)] → x3 = nI i → W p l e room_1 s m #[Value.ref b] below meth c H locs 68 4074 (lw_Z below #[Value.ref b] s) (F0 m 18 ls [])) {i : Nat} {σ τ : zkS} (hi6 : i + 6 ≤ L) (hin : L + 1 ≤ i + (n + 1)) (hR : zRel σ τ) {a1 a2 a3 a4 a5 : Int32} (e1 : xs ((nI i) + 1).toNatClampNeg = a1) (e2 : xs ((nI i) + 2).toNatClampNeg = a2) (e3 : xs ((nI i) + 3).toNatClampNeg = a3) (e4 : xs ((nI i) + 4).toNatClampNeg = a4) (e5 : xs ((nI i) + 5).toNatClampNeg = a5)
    {H : Heap} {locs : List Loc} (hV : zLo D cI cJ adA adB s σ τ H locs) {ls : Array Slot} (hl : lv_has ls 4 [(0, .ref b), (1, .ref (adA 0)), (2, .ref (adB 0)), (3, .int (nI i))]) : W p l e room_1 s m #[Value.ref b] below meth c H locs 68 4074 (lw_Z below #[Value.ref b] s) (F0 m 584 ls []) := by
  have hx := hC.1
  have hb := hC.2.1
  have h1 : vp_in ((nI i) + 1) L := zl_in (k := 1) hi6 hLL (by decide)
  have h2 : vp_in ((nI i) + 2) L := zl_in (k := 2) hi6 hLL (by decide)
  have h3 : vp_in ((nI i) + 3) L := zl_in (k := 3) hi6 hLL (by decide)
  have h4 : vp_in ((nI i) + 4) L := zl_in (k := 4) hi6 hLL (by decide)
  have h5 : vp_in ((nI i) + 5) L := zl_in (k := 5) hi6 hLL (by decide)
  refine lv_aload_n hx hb dL_law_584 rfl (lv_at hl 1 rfl) ?_
  obtain ⟨r, σ1, τ1, hq1, hq2, hR⟩ := T_leave hR
  refine zl_ai hL hV (zl_run (u := 0) (As := []) (rest := []) hC hV.1 hV.2.2 hL.1 (by decide +kernel) (mX7_leave  σ hL.2.2.1 hq1) cv_L_65 zck_0_0 rfl ⟨⟨rfl, rfl⟩, Nat.le_of_ble_eq_true rfl, Nat.le_of_ble_eq_true rfl⟩ (zlv_size hl) rfl (Nat.le_of_ble_eq_true rfl) dL_law_585) (fun H locs hV => ?_)
  refine lv_aload_n hx hb dL_law_588 rfl (lv_at hl 2 rfl) ?_
  refine zl_bi hL hV (zl_run (u := 1) (As := []) (rest := [.int r]) hC hV.2.1 hV.2.2 hL.2.1 (by decide +kernel) (mX8_leave  τ hL.2.2.2.1 hq2) cv_L_69 zck_1_0 rfl ⟨⟨rfl, rfl⟩, Nat.le_of_ble_eq_true rfl, Nat.le_of_ble_eq_true rfl⟩ (zlv_size hl) rfl (Nat.le_of_ble_eq_true rfl) dL_law_589) (fun H locs hV => ?_)
  refine lv_icmp_eq (tgt := 1335) hx hb dL_law_592 (by decide) (fun _ => ?_) (fun hc => absurd rfl hc)
  refine lv_iinc (v := nI (i + 6)) (lv' := [(3, .int (nI (i + 6))), (0, .ref b), (1, .ref (adA 0)), (2, .ref (adB 0))]) hx hb dL_law_1335 hl (k := 3) rfl (nI_add i 6) (by decide) rfl (fun ls hl => ?_)
  refine lv_goto (tgt := 18) hx hb dL_law_1338 (by decide) ?_
  exact ih (i + 6) _ σ1 τ1 (by omega) (by omega) hR _ _ hV ls (lv_sub hl [1, 2, 3, 0] rfl) rfl

set_option maxHeartbeats 4000000 in
set_option maxRecDepth 100000 in
theorem lw_case_13 {p : Program} {l : Launch} {e : Env} {s : State} {m : MethodId} {below : List Frame} {meth : Method} {c : Code} {b L : Nat} {xs : Nat → Int32} {D : va_G} {cI cJ : ClassId} {adA adB : Nat → Nat} (hC : zLx p s m c #[Value.ref b] D cI cJ) (hL : zLa s adA adB) (hX : va_X b L xs s s.heap) (hbl : b < s.heap.size) (hLL : L ≤ 3072) {n : Nat}
    (ih : ∀ (i : Nat) (x3 : Int32) (σ τ : zkS), i ≤ L → L + 1 ≤ i + n → zRel σ τ → ∀ (H : Heap) (locs : List Loc), zLo D cI cJ adA adB s σ τ H locs → ∀ (ls : Array Slot), lv_has ls 4 [(0, .ref b), (1, .ref (adA 0)), (2, .ref (adB 0)), (3, .int x3)] → x3 = nI i → W p l e room_1 s m #[Value.ref b] below meth c H locs 68 4074 (lw_Z below #[Value.ref b] s) (F0 m 18 ls [])) {i : Nat} {σ τ : zkS} (hi6 : i + 6 ≤ L) (hin : L + 1 ≤ i + (n + 1)) (hR : zRel σ τ) {a1 a2 a3 a4 a5 : Int32} (e1 : xs ((nI i) + 1).toNatClampNeg = a1) (e2 : xs ((nI i) + 2).toNatClampNeg = a2) (e3 : xs ((nI i) + 3).toNatClampNeg = a3) (e4 : xs ((nI i) + 4).toNatClampNeg = a4) (e5 : xs ((nI i) + 5).toNatClampNeg = a5)
    {H : Heap} {locs : List Loc} (hV : zLo D cI cJ adA adB s σ τ H locs) {ls : Array Slot} (hl : lv_has ls 4 [(0, .ref b), (1, .ref (adA 0)), (2, .ref (adB 0)), (3, .int (nI i))]) : W p l e room_1 s m #[Value.ref b] below meth c H locs 68 4074 (lw_Z below #[Value.ref b] s) (F0 m 597 ls []) := by
  have hx := hC.1
  have hb := hC.2.1
  have h1 : vp_in ((nI i) + 1) L := zl_in (k := 1) hi6 hLL (by decide)
  have h2 : vp_in ((nI i) + 2) L := zl_in (k := 2) hi6 hLL (by decide)
  have h3 : vp_in ((nI i) + 3) L := zl_in (k := 3) hi6 hLL (by decide)
  have h4 : vp_in ((nI i) + 4) L := zl_in (k := 4) hi6 hLL (by decide)
  have h5 : vp_in ((nI i) + 5) L := zl_in (k := 5) hi6 hLL (by decide)
  refine lv_aload_n hx hb dL_law_597 rfl (lv_at hl 1 rfl) ?_
  obtain ⟨r, σ1, τ1, hq1, hq2, hR⟩ := T_sweep hR
  refine zl_ai hL hV (zl_run (u := 0) (As := []) (rest := []) hC hV.1 hV.2.2 hL.1 (by decide +kernel) (mX7_sweep  σ hL.2.2.1 hq1) cv_L_70 zck_0_0 rfl ⟨⟨rfl, rfl⟩, Nat.le_of_ble_eq_true rfl, Nat.le_of_ble_eq_true rfl⟩ (zlv_size hl) rfl (Nat.le_of_ble_eq_true rfl) dL_law_598) (fun H locs hV => ?_)
  refine lv_aload_n hx hb dL_law_601 rfl (lv_at hl 2 rfl) ?_
  refine zl_bi hL hV (zl_run (u := 1) (As := []) (rest := [.int r]) hC hV.2.1 hV.2.2 hL.2.1 (by decide +kernel) (mX8_sweep  τ hL.2.2.2.1 hq2) cv_L_73 zck_1_0 rfl ⟨⟨rfl, rfl⟩, Nat.le_of_ble_eq_true rfl, Nat.le_of_ble_eq_true rfl⟩ (zlv_size hl) rfl (Nat.le_of_ble_eq_true rfl) dL_law_602) (fun H locs hV => ?_)
  refine lv_icmp_eq (tgt := 1335) hx hb dL_law_605 (by decide) (fun _ => ?_) (fun hc => absurd rfl hc)
  refine lv_iinc (v := nI (i + 6)) (lv' := [(3, .int (nI (i + 6))), (0, .ref b), (1, .ref (adA 0)), (2, .ref (adB 0))]) hx hb dL_law_1335 hl (k := 3) rfl (nI_add i 6) (by decide) rfl (fun ls hl => ?_)
  refine lv_goto (tgt := 18) hx hb dL_law_1338 (by decide) ?_
  exact ih (i + 6) _ σ1 τ1 (by omega) (by omega) hR _ _ hV ls (lv_sub hl [1, 2, 3, 0] rfl) rfl

set_option maxHeartbeats 4000000 in
set_option maxRecDepth 100000 in
theorem lw_case_14 {p : Program} {l : Launch} {e : Env} {s : State} {m : MethodId} {below : List Frame} {meth : Method} {c : Code} {b L : Nat} {xs : Nat → Int32} {D : va_G} {cI cJ : ClassId} {adA adB : Nat → Nat} (hC : zLx p s m c #[Value.ref b] D cI cJ) (hL : zLa s adA adB) (hX : va_X b L xs s s.heap) (hbl : b < s.heap.size) (hLL : L ≤ 3072) {n : Nat}
    (ih : ∀ (i : Nat) (x3 : Int32) (σ τ : zkS), i ≤ L → L + 1 ≤ i + n → zRel σ τ → ∀ (H : Heap) (locs : List Loc), zLo D cI cJ adA adB s σ τ H locs → ∀ (ls : Array Slot), lv_has ls 4 [(0, .ref b), (1, .ref (adA 0)), (2, .ref (adB 0)), (3, .int x3)] → x3 = nI i → W p l e room_1 s m #[Value.ref b] below meth c H locs 68 4074 (lw_Z below #[Value.ref b] s) (F0 m 18 ls [])) {i : Nat} {σ τ : zkS} (hi6 : i + 6 ≤ L) (hin : L + 1 ≤ i + (n + 1)) (hR : zRel σ τ) {a1 a2 a3 a4 a5 : Int32} (e1 : xs ((nI i) + 1).toNatClampNeg = a1) (e2 : xs ((nI i) + 2).toNatClampNeg = a2) (e3 : xs ((nI i) + 3).toNatClampNeg = a3) (e4 : xs ((nI i) + 4).toNatClampNeg = a4) (e5 : xs ((nI i) + 5).toNatClampNeg = a5)
    {H : Heap} {locs : List Loc} (hV : zLo D cI cJ adA adB s σ τ H locs) {ls : Array Slot} (hl : lv_has ls 4 [(0, .ref b), (1, .ref (adA 0)), (2, .ref (adB 0)), (3, .int (nI i))]) : W p l e room_1 s m #[Value.ref b] below meth c H locs 68 4074 (lw_Z below #[Value.ref b] s) (F0 m 610 ls []) := by
  have hx := hC.1
  have hb := hC.2.1
  have h1 : vp_in ((nI i) + 1) L := zl_in (k := 1) hi6 hLL (by decide)
  have h2 : vp_in ((nI i) + 2) L := zl_in (k := 2) hi6 hLL (by decide)
  have h3 : vp_in ((nI i) + 3) L := zl_in (k := 3) hi6 hLL (by decide)
  have h4 : vp_in ((nI i) + 4) L := zl_in (k := 4) hi6 hLL (by decide)
  have h5 : vp_in ((nI i) + 5) L := zl_in (k := 5) hi6 hLL (by decide)
  refine lv_aload_n hx hb dL_law_610 rfl (lv_at hl 1 rfl) ?_
  refine lv_aload_n hx hb dL_law_611 rfl (lv_at hl 0 rfl) ?_
  refine lv_iload_n hx hb dL_law_612 rfl (lv_at hl 3 rfl) ?_
  refine lv_iconst (v := 1) hx hb dL_law_613 (by decide) ?_
  refine lv_iadd hx hb dL_law_614 ?_
  refine zl_ld hC hX hbl hV h1 e1 dL_law_615 ?_
  obtain ⟨r, σ1, τ1, hq1, hq2, hR⟩ := T_told hR a1
  refine zl_ai hL hV (zl_run (u := 0) (As := [.int a1]) (rest := []) hC hV.1 hV.2.2 hL.1 (by decide +kernel) (mX7_told a1 σ hL.2.2.1 hq1) cv_L_74 zck_0_0 rfl ⟨⟨rfl, rfl⟩, Nat.le_of_ble_eq_true rfl, Nat.le_of_ble_eq_true rfl⟩ (zlv_size hl) rfl (Nat.le_of_ble_eq_true rfl) dL_law_616) (fun H locs hV => ?_)
  refine lv_aload_n hx hb dL_law_619 rfl (lv_at hl 2 rfl) ?_
  refine lv_aload_n hx hb dL_law_620 rfl (lv_at hl 0 rfl) ?_
  refine lv_iload_n hx hb dL_law_621 rfl (lv_at hl 3 rfl) ?_
  refine lv_iconst (v := 1) hx hb dL_law_622 (by decide) ?_
  refine lv_iadd hx hb dL_law_623 ?_
  refine zl_ld hC hX hbl hV h1 e1 dL_law_624 ?_
  refine zl_bi hL hV (zl_run (u := 1) (As := [.int a1]) (rest := [.int r]) hC hV.2.1 hV.2.2 hL.2.1 (by decide +kernel) (mX8_told_ a1 τ hL.2.2.2.1 hq2) cv_L_77 zck_1_0 rfl ⟨⟨rfl, rfl⟩, Nat.le_of_ble_eq_true rfl, Nat.le_of_ble_eq_true rfl⟩ (zlv_size hl) rfl (Nat.le_of_ble_eq_true rfl) dL_law_625) (fun H locs hV => ?_)
  refine lv_icmp_eq (tgt := 1335) hx hb dL_law_628 (by decide) (fun _ => ?_) (fun hc => absurd rfl hc)
  refine lv_iinc (v := nI (i + 6)) (lv' := [(3, .int (nI (i + 6))), (0, .ref b), (1, .ref (adA 0)), (2, .ref (adB 0))]) hx hb dL_law_1335 hl (k := 3) rfl (nI_add i 6) (by decide) rfl (fun ls hl => ?_)
  refine lv_goto (tgt := 18) hx hb dL_law_1338 (by decide) ?_
  exact ih (i + 6) _ σ1 τ1 (by omega) (by omega) hR _ _ hV ls (lv_sub hl [1, 2, 3, 0] rfl) rfl

set_option maxHeartbeats 4000000 in
set_option maxRecDepth 100000 in
theorem lw_case_15 {p : Program} {l : Launch} {e : Env} {s : State} {m : MethodId} {below : List Frame} {meth : Method} {c : Code} {b L : Nat} {xs : Nat → Int32} {D : va_G} {cI cJ : ClassId} {adA adB : Nat → Nat} (hC : zLx p s m c #[Value.ref b] D cI cJ) (hL : zLa s adA adB) (hX : va_X b L xs s s.heap) (hbl : b < s.heap.size) (hLL : L ≤ 3072) {n : Nat}
    (ih : ∀ (i : Nat) (x3 : Int32) (σ τ : zkS), i ≤ L → L + 1 ≤ i + n → zRel σ τ → ∀ (H : Heap) (locs : List Loc), zLo D cI cJ adA adB s σ τ H locs → ∀ (ls : Array Slot), lv_has ls 4 [(0, .ref b), (1, .ref (adA 0)), (2, .ref (adB 0)), (3, .int x3)] → x3 = nI i → W p l e room_1 s m #[Value.ref b] below meth c H locs 68 4074 (lw_Z below #[Value.ref b] s) (F0 m 18 ls [])) {i : Nat} {σ τ : zkS} (hi6 : i + 6 ≤ L) (hin : L + 1 ≤ i + (n + 1)) (hR : zRel σ τ) {a1 a2 a3 a4 a5 : Int32} (e1 : xs ((nI i) + 1).toNatClampNeg = a1) (e2 : xs ((nI i) + 2).toNatClampNeg = a2) (e3 : xs ((nI i) + 3).toNatClampNeg = a3) (e4 : xs ((nI i) + 4).toNatClampNeg = a4) (e5 : xs ((nI i) + 5).toNatClampNeg = a5)
    {H : Heap} {locs : List Loc} (hV : zLo D cI cJ adA adB s σ τ H locs) {ls : Array Slot} (hl : lv_has ls 4 [(0, .ref b), (1, .ref (adA 0)), (2, .ref (adB 0)), (3, .int (nI i))]) : W p l e room_1 s m #[Value.ref b] below meth c H locs 68 4074 (lw_Z below #[Value.ref b] s) (F0 m 633 ls []) := by
  have hx := hC.1
  have hb := hC.2.1
  have h1 : vp_in ((nI i) + 1) L := zl_in (k := 1) hi6 hLL (by decide)
  have h2 : vp_in ((nI i) + 2) L := zl_in (k := 2) hi6 hLL (by decide)
  have h3 : vp_in ((nI i) + 3) L := zl_in (k := 3) hi6 hLL (by decide)
  have h4 : vp_in ((nI i) + 4) L := zl_in (k := 4) hi6 hLL (by decide)
  have h5 : vp_in ((nI i) + 5) L := zl_in (k := 5) hi6 hLL (by decide)
  refine lv_aload_n hx hb dL_law_633 rfl (lv_at hl 1 rfl) ?_
  refine lv_aload_n hx hb dL_law_634 rfl (lv_at hl 0 rfl) ?_
  refine lv_iload_n hx hb dL_law_635 rfl (lv_at hl 3 rfl) ?_
  refine lv_iconst (v := 1) hx hb dL_law_636 (by decide) ?_
  refine lv_iadd hx hb dL_law_637 ?_
  refine zl_ld hC hX hbl hV h1 e1 dL_law_638 ?_
  refine lv_aload_n hx hb dL_law_639 rfl (lv_at hl 0 rfl) ?_
  refine lv_iload_n hx hb dL_law_640 rfl (lv_at hl 3 rfl) ?_
  refine lv_iconst (v := 2) hx hb dL_law_641 (by decide) ?_
  refine lv_iadd hx hb dL_law_642 ?_
  refine zl_ld hC hX hbl hV h2 e2 dL_law_643 ?_
  obtain ⟨r, σ1, τ1, hq1, hq2, hR⟩ := T_on hR a1 a2
  refine zl_ai hL hV (zl_run (u := 0) (As := [.int a1, .int a2]) (rest := []) hC hV.1 hV.2.2 hL.1 (by decide +kernel) (mX7_on a1 a2 σ hL.2.2.1 hq1) cv_L_78 zck_0_0 rfl ⟨⟨rfl, rfl⟩, Nat.le_of_ble_eq_true rfl, Nat.le_of_ble_eq_true rfl⟩ (zlv_size hl) rfl (Nat.le_of_ble_eq_true rfl) dL_law_644) (fun H locs hV => ?_)
  refine lv_aload_n hx hb dL_law_647 rfl (lv_at hl 2 rfl) ?_
  refine lv_aload_n hx hb dL_law_648 rfl (lv_at hl 0 rfl) ?_
  refine lv_iload_n hx hb dL_law_649 rfl (lv_at hl 3 rfl) ?_
  refine lv_iconst (v := 1) hx hb dL_law_650 (by decide) ?_
  refine lv_iadd hx hb dL_law_651 ?_
  refine zl_ld hC hX hbl hV h1 e1 dL_law_652 ?_
  refine lv_aload_n hx hb dL_law_653 rfl (lv_at hl 0 rfl) ?_
  refine lv_iload_n hx hb dL_law_654 rfl (lv_at hl 3 rfl) ?_
  refine lv_iconst (v := 2) hx hb dL_law_655 (by decide) ?_
  refine lv_iadd hx hb dL_law_656 ?_
  refine zl_ld hC hX hbl hV h2 e2 dL_law_657 ?_
  refine zl_bi hL hV (zl_run (u := 1) (As := [.int a1, .int a2]) (rest := [.int r]) hC hV.2.1 hV.2.2 hL.2.1 (by decide +kernel) (mX8_on a1 a2 τ hL.2.2.2.1 hq2) cv_L_81 zck_1_0 rfl ⟨⟨rfl, rfl⟩, Nat.le_of_ble_eq_true rfl, Nat.le_of_ble_eq_true rfl⟩ (zlv_size hl) rfl (Nat.le_of_ble_eq_true rfl) dL_law_658) (fun H locs hV => ?_)
  refine lv_icmp_eq (tgt := 1335) hx hb dL_law_661 (by decide) (fun _ => ?_) (fun hc => absurd rfl hc)
  refine lv_iinc (v := nI (i + 6)) (lv' := [(3, .int (nI (i + 6))), (0, .ref b), (1, .ref (adA 0)), (2, .ref (adB 0))]) hx hb dL_law_1335 hl (k := 3) rfl (nI_add i 6) (by decide) rfl (fun ls hl => ?_)
  refine lv_goto (tgt := 18) hx hb dL_law_1338 (by decide) ?_
  exact ih (i + 6) _ σ1 τ1 (by omega) (by omega) hR _ _ hV ls (lv_sub hl [1, 2, 3, 0] rfl) rfl

set_option maxHeartbeats 4000000 in
set_option maxRecDepth 100000 in
theorem lw_case_16 {p : Program} {l : Launch} {e : Env} {s : State} {m : MethodId} {below : List Frame} {meth : Method} {c : Code} {b L : Nat} {xs : Nat → Int32} {D : va_G} {cI cJ : ClassId} {adA adB : Nat → Nat} (hC : zLx p s m c #[Value.ref b] D cI cJ) (hL : zLa s adA adB) (hX : va_X b L xs s s.heap) (hbl : b < s.heap.size) (hLL : L ≤ 3072) {n : Nat}
    (ih : ∀ (i : Nat) (x3 : Int32) (σ τ : zkS), i ≤ L → L + 1 ≤ i + n → zRel σ τ → ∀ (H : Heap) (locs : List Loc), zLo D cI cJ adA adB s σ τ H locs → ∀ (ls : Array Slot), lv_has ls 4 [(0, .ref b), (1, .ref (adA 0)), (2, .ref (adB 0)), (3, .int x3)] → x3 = nI i → W p l e room_1 s m #[Value.ref b] below meth c H locs 68 4074 (lw_Z below #[Value.ref b] s) (F0 m 18 ls [])) {i : Nat} {σ τ : zkS} (hi6 : i + 6 ≤ L) (hin : L + 1 ≤ i + (n + 1)) (hR : zRel σ τ) {a1 a2 a3 a4 a5 : Int32} (e1 : xs ((nI i) + 1).toNatClampNeg = a1) (e2 : xs ((nI i) + 2).toNatClampNeg = a2) (e3 : xs ((nI i) + 3).toNatClampNeg = a3) (e4 : xs ((nI i) + 4).toNatClampNeg = a4) (e5 : xs ((nI i) + 5).toNatClampNeg = a5)
    {H : Heap} {locs : List Loc} (hV : zLo D cI cJ adA adB s σ τ H locs) {ls : Array Slot} (hl : lv_has ls 4 [(0, .ref b), (1, .ref (adA 0)), (2, .ref (adB 0)), (3, .int (nI i))]) : W p l e room_1 s m #[Value.ref b] below meth c H locs 68 4074 (lw_Z below #[Value.ref b] s) (F0 m 666 ls []) := by
  have hx := hC.1
  have hb := hC.2.1
  have h1 : vp_in ((nI i) + 1) L := zl_in (k := 1) hi6 hLL (by decide)
  have h2 : vp_in ((nI i) + 2) L := zl_in (k := 2) hi6 hLL (by decide)
  have h3 : vp_in ((nI i) + 3) L := zl_in (k := 3) hi6 hLL (by decide)
  have h4 : vp_in ((nI i) + 4) L := zl_in (k := 4) hi6 hLL (by decide)
  have h5 : vp_in ((nI i) + 5) L := zl_in (k := 5) hi6 hLL (by decide)
  refine lv_aload_n hx hb dL_law_666 rfl (lv_at hl 1 rfl) ?_
  refine lv_aload_n hx hb dL_law_667 rfl (lv_at hl 0 rfl) ?_
  refine lv_iload_n hx hb dL_law_668 rfl (lv_at hl 3 rfl) ?_
  refine lv_iconst (v := 1) hx hb dL_law_669 (by decide) ?_
  refine lv_iadd hx hb dL_law_670 ?_
  refine zl_ld hC hX hbl hV h1 e1 dL_law_671 ?_
  refine lv_aload_n hx hb dL_law_672 rfl (lv_at hl 0 rfl) ?_
  refine lv_iload_n hx hb dL_law_673 rfl (lv_at hl 3 rfl) ?_
  refine lv_iconst (v := 2) hx hb dL_law_674 (by decide) ?_
  refine lv_iadd hx hb dL_law_675 ?_
  refine zl_ld hC hX hbl hV h2 e2 dL_law_676 ?_
  obtain ⟨r, σ1, τ1, hq1, hq2, hR⟩ := T_need hR a1 a2
  refine zl_ai hL hV (zl_run (u := 0) (As := [.int a1, .int a2]) (rest := []) hC hV.1 hV.2.2 hL.1 (by decide +kernel) (mX7_need a1 a2 σ hL.2.2.1 hq1) cv_L_82 zck_0_0 rfl ⟨⟨rfl, rfl⟩, Nat.le_of_ble_eq_true rfl, Nat.le_of_ble_eq_true rfl⟩ (zlv_size hl) rfl (Nat.le_of_ble_eq_true rfl) dL_law_677) (fun H locs hV => ?_)
  refine lv_aload_n hx hb dL_law_680 rfl (lv_at hl 2 rfl) ?_
  refine lv_aload_n hx hb dL_law_681 rfl (lv_at hl 0 rfl) ?_
  refine lv_iload_n hx hb dL_law_682 rfl (lv_at hl 3 rfl) ?_
  refine lv_iconst (v := 1) hx hb dL_law_683 (by decide) ?_
  refine lv_iadd hx hb dL_law_684 ?_
  refine zl_ld hC hX hbl hV h1 e1 dL_law_685 ?_
  refine lv_aload_n hx hb dL_law_686 rfl (lv_at hl 0 rfl) ?_
  refine lv_iload_n hx hb dL_law_687 rfl (lv_at hl 3 rfl) ?_
  refine lv_iconst (v := 2) hx hb dL_law_688 (by decide) ?_
  refine lv_iadd hx hb dL_law_689 ?_
  refine zl_ld hC hX hbl hV h2 e2 dL_law_690 ?_
  refine zl_bi hL hV (zl_run (u := 1) (As := [.int a1, .int a2]) (rest := [.int r]) hC hV.2.1 hV.2.2 hL.2.1 (by decide +kernel) (mX8_need a1 a2 τ hL.2.2.2.1 hq2) cv_L_85 zck_1_0 rfl ⟨⟨rfl, rfl⟩, Nat.le_of_ble_eq_true rfl, Nat.le_of_ble_eq_true rfl⟩ (zlv_size hl) rfl (Nat.le_of_ble_eq_true rfl) dL_law_691) (fun H locs hV => ?_)
  refine lv_icmp_eq (tgt := 1335) hx hb dL_law_694 (by decide) (fun _ => ?_) (fun hc => absurd rfl hc)
  refine lv_iinc (v := nI (i + 6)) (lv' := [(3, .int (nI (i + 6))), (0, .ref b), (1, .ref (adA 0)), (2, .ref (adB 0))]) hx hb dL_law_1335 hl (k := 3) rfl (nI_add i 6) (by decide) rfl (fun ls hl => ?_)
  refine lv_goto (tgt := 18) hx hb dL_law_1338 (by decide) ?_
  exact ih (i + 6) _ σ1 τ1 (by omega) (by omega) hR _ _ hV ls (lv_sub hl [1, 2, 3, 0] rfl) rfl

set_option maxHeartbeats 4000000 in
set_option maxRecDepth 100000 in
theorem lw_case_17 {p : Program} {l : Launch} {e : Env} {s : State} {m : MethodId} {below : List Frame} {meth : Method} {c : Code} {b L : Nat} {xs : Nat → Int32} {D : va_G} {cI cJ : ClassId} {adA adB : Nat → Nat} (hC : zLx p s m c #[Value.ref b] D cI cJ) (hL : zLa s adA adB) (hX : va_X b L xs s s.heap) (hbl : b < s.heap.size) (hLL : L ≤ 3072) {n : Nat}
    (ih : ∀ (i : Nat) (x3 : Int32) (σ τ : zkS), i ≤ L → L + 1 ≤ i + n → zRel σ τ → ∀ (H : Heap) (locs : List Loc), zLo D cI cJ adA adB s σ τ H locs → ∀ (ls : Array Slot), lv_has ls 4 [(0, .ref b), (1, .ref (adA 0)), (2, .ref (adB 0)), (3, .int x3)] → x3 = nI i → W p l e room_1 s m #[Value.ref b] below meth c H locs 68 4074 (lw_Z below #[Value.ref b] s) (F0 m 18 ls [])) {i : Nat} {σ τ : zkS} (hi6 : i + 6 ≤ L) (hin : L + 1 ≤ i + (n + 1)) (hR : zRel σ τ) {a1 a2 a3 a4 a5 : Int32} (e1 : xs ((nI i) + 1).toNatClampNeg = a1) (e2 : xs ((nI i) + 2).toNatClampNeg = a2) (e3 : xs ((nI i) + 3).toNatClampNeg = a3) (e4 : xs ((nI i) + 4).toNatClampNeg = a4) (e5 : xs ((nI i) + 5).toNatClampNeg = a5)
    {H : Heap} {locs : List Loc} (hV : zLo D cI cJ adA adB s σ τ H locs) {ls : Array Slot} (hl : lv_has ls 4 [(0, .ref b), (1, .ref (adA 0)), (2, .ref (adB 0)), (3, .int (nI i))]) : W p l e room_1 s m #[Value.ref b] below meth c H locs 68 4074 (lw_Z below #[Value.ref b] s) (F0 m 699 ls []) := by
  have hx := hC.1
  have hb := hC.2.1
  have h1 : vp_in ((nI i) + 1) L := zl_in (k := 1) hi6 hLL (by decide)
  have h2 : vp_in ((nI i) + 2) L := zl_in (k := 2) hi6 hLL (by decide)
  have h3 : vp_in ((nI i) + 3) L := zl_in (k := 3) hi6 hLL (by decide)
  have h4 : vp_in ((nI i) + 4) L := zl_in (k := 4) hi6 hLL (by decide)
  have h5 : vp_in ((nI i) + 5) L := zl_in (k := 5) hi6 hLL (by decide)
  refine lv_aload_n hx hb dL_law_699 rfl (lv_at hl 1 rfl) ?_
  refine lv_aload_n hx hb dL_law_700 rfl (lv_at hl 0 rfl) ?_
  refine lv_iload_n hx hb dL_law_701 rfl (lv_at hl 3 rfl) ?_
  refine lv_iconst (v := 1) hx hb dL_law_702 (by decide) ?_
  refine lv_iadd hx hb dL_law_703 ?_
  refine zl_ld hC hX hbl hV h1 e1 dL_law_704 ?_
  obtain ⟨r, σ1, τ1, hq1, hq2, hR⟩ := T_least hR a1
  refine zl_ai hL hV (zl_run (u := 0) (As := [.int a1]) (rest := []) hC hV.1 hV.2.2 hL.1 (by decide +kernel) (mX7_least a1 σ hL.2.2.1 hq1) cv_L_86 zck_0_0 rfl ⟨⟨rfl, rfl⟩, Nat.le_of_ble_eq_true rfl, Nat.le_of_ble_eq_true rfl⟩ (zlv_size hl) rfl (Nat.le_of_ble_eq_true rfl) dL_law_705) (fun H locs hV => ?_)
  refine lv_aload_n hx hb dL_law_708 rfl (lv_at hl 2 rfl) ?_
  refine lv_aload_n hx hb dL_law_709 rfl (lv_at hl 0 rfl) ?_
  refine lv_iload_n hx hb dL_law_710 rfl (lv_at hl 3 rfl) ?_
  refine lv_iconst (v := 1) hx hb dL_law_711 (by decide) ?_
  refine lv_iadd hx hb dL_law_712 ?_
  refine zl_ld hC hX hbl hV h1 e1 dL_law_713 ?_
  refine zl_bi hL hV (zl_run (u := 1) (As := [.int a1]) (rest := [.int r]) hC hV.2.1 hV.2.2 hL.2.1 (by decide +kernel) (mX8_least a1 τ hL.2.2.2.1 hq2) cv_L_89 zck_1_0 rfl ⟨⟨rfl, rfl⟩, Nat.le_of_ble_eq_true rfl, Nat.le_of_ble_eq_true rfl⟩ (zlv_size hl) rfl (Nat.le_of_ble_eq_true rfl) dL_law_714) (fun H locs hV => ?_)
  refine lv_icmp_eq (tgt := 1335) hx hb dL_law_717 (by decide) (fun _ => ?_) (fun hc => absurd rfl hc)
  refine lv_iinc (v := nI (i + 6)) (lv' := [(3, .int (nI (i + 6))), (0, .ref b), (1, .ref (adA 0)), (2, .ref (adB 0))]) hx hb dL_law_1335 hl (k := 3) rfl (nI_add i 6) (by decide) rfl (fun ls hl => ?_)
  refine lv_goto (tgt := 18) hx hb dL_law_1338 (by decide) ?_
  exact ih (i + 6) _ σ1 τ1 (by omega) (by omega) hR _ _ hV ls (lv_sub hl [1, 2, 3, 0] rfl) rfl

set_option maxHeartbeats 4000000 in
set_option maxRecDepth 100000 in
theorem lw_case_18 {p : Program} {l : Launch} {e : Env} {s : State} {m : MethodId} {below : List Frame} {meth : Method} {c : Code} {b L : Nat} {xs : Nat → Int32} {D : va_G} {cI cJ : ClassId} {adA adB : Nat → Nat} (hC : zLx p s m c #[Value.ref b] D cI cJ) (hL : zLa s adA adB) (hX : va_X b L xs s s.heap) (hbl : b < s.heap.size) (hLL : L ≤ 3072) {n : Nat}
    (ih : ∀ (i : Nat) (x3 : Int32) (σ τ : zkS), i ≤ L → L + 1 ≤ i + n → zRel σ τ → ∀ (H : Heap) (locs : List Loc), zLo D cI cJ adA adB s σ τ H locs → ∀ (ls : Array Slot), lv_has ls 4 [(0, .ref b), (1, .ref (adA 0)), (2, .ref (adB 0)), (3, .int x3)] → x3 = nI i → W p l e room_1 s m #[Value.ref b] below meth c H locs 68 4074 (lw_Z below #[Value.ref b] s) (F0 m 18 ls [])) {i : Nat} {σ τ : zkS} (hi6 : i + 6 ≤ L) (hin : L + 1 ≤ i + (n + 1)) (hR : zRel σ τ) {a1 a2 a3 a4 a5 : Int32} (e1 : xs ((nI i) + 1).toNatClampNeg = a1) (e2 : xs ((nI i) + 2).toNatClampNeg = a2) (e3 : xs ((nI i) + 3).toNatClampNeg = a3) (e4 : xs ((nI i) + 4).toNatClampNeg = a4) (e5 : xs ((nI i) + 5).toNatClampNeg = a5)
    {H : Heap} {locs : List Loc} (hV : zLo D cI cJ adA adB s σ τ H locs) {ls : Array Slot} (hl : lv_has ls 4 [(0, .ref b), (1, .ref (adA 0)), (2, .ref (adB 0)), (3, .int (nI i))]) : W p l e room_1 s m #[Value.ref b] below meth c H locs 68 4074 (lw_Z below #[Value.ref b] s) (F0 m 722 ls []) := by
  have hx := hC.1
  have hb := hC.2.1
  have h1 : vp_in ((nI i) + 1) L := zl_in (k := 1) hi6 hLL (by decide)
  have h2 : vp_in ((nI i) + 2) L := zl_in (k := 2) hi6 hLL (by decide)
  have h3 : vp_in ((nI i) + 3) L := zl_in (k := 3) hi6 hLL (by decide)
  have h4 : vp_in ((nI i) + 4) L := zl_in (k := 4) hi6 hLL (by decide)
  have h5 : vp_in ((nI i) + 5) L := zl_in (k := 5) hi6 hLL (by decide)
  refine lv_aload_n hx hb dL_law_722 rfl (lv_at hl 1 rfl) ?_
  refine lv_aload_n hx hb dL_law_723 rfl (lv_at hl 0 rfl) ?_
  refine lv_iload_n hx hb dL_law_724 rfl (lv_at hl 3 rfl) ?_
  refine lv_iconst (v := 1) hx hb dL_law_725 (by decide) ?_
  refine lv_iadd hx hb dL_law_726 ?_
  refine zl_ld hC hX hbl hV h1 e1 dL_law_727 ?_
  refine lv_aload_n hx hb dL_law_728 rfl (lv_at hl 0 rfl) ?_
  refine lv_iload_n hx hb dL_law_729 rfl (lv_at hl 3 rfl) ?_
  refine lv_iconst (v := 2) hx hb dL_law_730 (by decide) ?_
  refine lv_iadd hx hb dL_law_731 ?_
  refine zl_ld hC hX hbl hV h2 e2 dL_law_732 ?_
  refine lv_aload_n hx hb dL_law_733 rfl (lv_at hl 0 rfl) ?_
  refine lv_iload_n hx hb dL_law_734 rfl (lv_at hl 3 rfl) ?_
  refine lv_iconst (v := 3) hx hb dL_law_735 (by decide) ?_
  refine lv_iadd hx hb dL_law_736 ?_
  refine zl_ld hC hX hbl hV h3 e3 dL_law_737 ?_
  refine lv_if_eq (tgt := 745) hx hb dL_law_738 (by decide) (fun hz => ?_) (fun hz => ?_)
  · skip
    refine lv_iconst (v := 0) hx hb dL_law_745 (by decide) ?_
    obtain ⟨r, σ1, τ1, hq1, hq2, hR⟩ := T_see hR a1 a2 0
    refine zl_ai hL hV (zl_run (u := 0) (As := [.int a1, .int a2, .int 0]) (rest := []) hC hV.1 hV.2.2 hL.1 (by decide +kernel) (mX7_see a1 a2 0 σ hL.2.2.1 hq1) cv_L_90 zck_0_0 rfl ⟨⟨rfl, rfl⟩, Nat.le_of_ble_eq_true rfl, Nat.le_of_ble_eq_true rfl⟩ (zlv_size hl) rfl (Nat.le_of_ble_eq_true rfl) dL_law_746) (fun H locs hV => ?_)
    refine lv_aload_n hx hb dL_law_749 rfl (lv_at hl 2 rfl) ?_
    refine lv_aload_n hx hb dL_law_750 rfl (lv_at hl 0 rfl) ?_
    refine lv_iload_n hx hb dL_law_751 rfl (lv_at hl 3 rfl) ?_
    refine lv_iconst (v := 1) hx hb dL_law_752 (by decide) ?_
    refine lv_iadd hx hb dL_law_753 ?_
    refine zl_ld hC hX hbl hV h1 e1 dL_law_754 ?_
    refine lv_aload_n hx hb dL_law_755 rfl (lv_at hl 0 rfl) ?_
    refine lv_iload_n hx hb dL_law_756 rfl (lv_at hl 3 rfl) ?_
    refine lv_iconst (v := 2) hx hb dL_law_757 (by decide) ?_
    refine lv_iadd hx hb dL_law_758 ?_
    refine zl_ld hC hX hbl hV h2 e2 dL_law_759 ?_
    refine lv_aload_n hx hb dL_law_760 rfl (lv_at hl 0 rfl) ?_
    refine lv_iload_n hx hb dL_law_761 rfl (lv_at hl 3 rfl) ?_
    refine lv_iconst (v := 3) hx hb dL_law_762 (by decide) ?_
    refine lv_iadd hx hb dL_law_763 ?_
    refine zl_ld hC hX hbl hV h3 e3 dL_law_764 ?_
    refine lv_if_eq (tgt := 772) hx hb dL_law_765 (by decide) (fun _ => ?_) (fun hc => absurd hz hc)
    refine lv_iconst (v := 0) hx hb dL_law_772 (by decide) ?_
    refine zl_bi hL hV (zl_run (u := 1) (As := [.int a1, .int a2, .int 0]) (rest := [.int r]) hC hV.2.1 hV.2.2 hL.2.1 (by decide +kernel) (mX8_see a1 a2 0 τ hL.2.2.2.1 hq2) cv_L_94 zck_1_0 rfl ⟨⟨rfl, rfl⟩, Nat.le_of_ble_eq_true rfl, Nat.le_of_ble_eq_true rfl⟩ (zlv_size hl) rfl (Nat.le_of_ble_eq_true rfl) dL_law_773) (fun H locs hV => ?_)
    refine lv_icmp_eq (tgt := 1335) hx hb dL_law_776 (by decide) (fun _ => ?_) (fun hc => absurd rfl hc)
    refine lv_iinc (v := nI (i + 6)) (lv' := [(3, .int (nI (i + 6))), (0, .ref b), (1, .ref (adA 0)), (2, .ref (adB 0))]) hx hb dL_law_1335 hl (k := 3) rfl (nI_add i 6) (by decide) rfl (fun ls hl => ?_)
    refine lv_goto (tgt := 18) hx hb dL_law_1338 (by decide) ?_
    exact ih (i + 6) _ σ1 τ1 (by omega) (by omega) hR _ _ hV ls (lv_sub hl [1, 2, 3, 0] rfl) rfl
  · skip
    refine lv_iconst (v := 1) hx hb dL_law_741 (by decide) ?_
    refine lv_goto (tgt := 746) hx hb dL_law_742 (by decide) ?_
    obtain ⟨r, σ1, τ1, hq1, hq2, hR⟩ := T_see hR a1 a2 1
    refine zl_ai hL hV (zl_run (u := 0) (As := [.int a1, .int a2, .int 1]) (rest := []) hC hV.1 hV.2.2 hL.1 (by decide +kernel) (mX7_see a1 a2 1 σ hL.2.2.1 hq1) cv_L_90 zck_0_0 rfl ⟨⟨rfl, rfl⟩, Nat.le_of_ble_eq_true rfl, Nat.le_of_ble_eq_true rfl⟩ (zlv_size hl) rfl (Nat.le_of_ble_eq_true rfl) dL_law_746) (fun H locs hV => ?_)
    refine lv_aload_n hx hb dL_law_749 rfl (lv_at hl 2 rfl) ?_
    refine lv_aload_n hx hb dL_law_750 rfl (lv_at hl 0 rfl) ?_
    refine lv_iload_n hx hb dL_law_751 rfl (lv_at hl 3 rfl) ?_
    refine lv_iconst (v := 1) hx hb dL_law_752 (by decide) ?_
    refine lv_iadd hx hb dL_law_753 ?_
    refine zl_ld hC hX hbl hV h1 e1 dL_law_754 ?_
    refine lv_aload_n hx hb dL_law_755 rfl (lv_at hl 0 rfl) ?_
    refine lv_iload_n hx hb dL_law_756 rfl (lv_at hl 3 rfl) ?_
    refine lv_iconst (v := 2) hx hb dL_law_757 (by decide) ?_
    refine lv_iadd hx hb dL_law_758 ?_
    refine zl_ld hC hX hbl hV h2 e2 dL_law_759 ?_
    refine lv_aload_n hx hb dL_law_760 rfl (lv_at hl 0 rfl) ?_
    refine lv_iload_n hx hb dL_law_761 rfl (lv_at hl 3 rfl) ?_
    refine lv_iconst (v := 3) hx hb dL_law_762 (by decide) ?_
    refine lv_iadd hx hb dL_law_763 ?_
    refine zl_ld hC hX hbl hV h3 e3 dL_law_764 ?_
    refine lv_if_eq (tgt := 772) hx hb dL_law_765 (by decide) (fun hc => absurd hc hz) (fun _ => ?_)
    refine lv_iconst (v := 1) hx hb dL_law_768 (by decide) ?_
    refine lv_goto (tgt := 773) hx hb dL_law_769 (by decide) ?_
    refine zl_bi hL hV (zl_run (u := 1) (As := [.int a1, .int a2, .int 1]) (rest := [.int r]) hC hV.2.1 hV.2.2 hL.2.1 (by decide +kernel) (mX8_see a1 a2 1 τ hL.2.2.2.1 hq2) cv_L_94 zck_1_0 rfl ⟨⟨rfl, rfl⟩, Nat.le_of_ble_eq_true rfl, Nat.le_of_ble_eq_true rfl⟩ (zlv_size hl) rfl (Nat.le_of_ble_eq_true rfl) dL_law_773) (fun H locs hV => ?_)
    refine lv_icmp_eq (tgt := 1335) hx hb dL_law_776 (by decide) (fun _ => ?_) (fun hc => absurd rfl hc)
    refine lv_iinc (v := nI (i + 6)) (lv' := [(3, .int (nI (i + 6))), (0, .ref b), (1, .ref (adA 0)), (2, .ref (adB 0))]) hx hb dL_law_1335 hl (k := 3) rfl (nI_add i 6) (by decide) rfl (fun ls hl => ?_)
    refine lv_goto (tgt := 18) hx hb dL_law_1338 (by decide) ?_
    exact ih (i + 6) _ σ1 τ1 (by omega) (by omega) hR _ _ hV ls (lv_sub hl [1, 2, 3, 0] rfl) rfl

set_option maxHeartbeats 4000000 in
set_option maxRecDepth 100000 in
theorem lw_case_19 {p : Program} {l : Launch} {e : Env} {s : State} {m : MethodId} {below : List Frame} {meth : Method} {c : Code} {b L : Nat} {xs : Nat → Int32} {D : va_G} {cI cJ : ClassId} {adA adB : Nat → Nat} (hC : zLx p s m c #[Value.ref b] D cI cJ) (hL : zLa s adA adB) (hX : va_X b L xs s s.heap) (hbl : b < s.heap.size) (hLL : L ≤ 3072) {n : Nat}
    (ih : ∀ (i : Nat) (x3 : Int32) (σ τ : zkS), i ≤ L → L + 1 ≤ i + n → zRel σ τ → ∀ (H : Heap) (locs : List Loc), zLo D cI cJ adA adB s σ τ H locs → ∀ (ls : Array Slot), lv_has ls 4 [(0, .ref b), (1, .ref (adA 0)), (2, .ref (adB 0)), (3, .int x3)] → x3 = nI i → W p l e room_1 s m #[Value.ref b] below meth c H locs 68 4074 (lw_Z below #[Value.ref b] s) (F0 m 18 ls [])) {i : Nat} {σ τ : zkS} (hi6 : i + 6 ≤ L) (hin : L + 1 ≤ i + (n + 1)) (hR : zRel σ τ) {a1 a2 a3 a4 a5 : Int32} (e1 : xs ((nI i) + 1).toNatClampNeg = a1) (e2 : xs ((nI i) + 2).toNatClampNeg = a2) (e3 : xs ((nI i) + 3).toNatClampNeg = a3) (e4 : xs ((nI i) + 4).toNatClampNeg = a4) (e5 : xs ((nI i) + 5).toNatClampNeg = a5)
    {H : Heap} {locs : List Loc} (hV : zLo D cI cJ adA adB s σ τ H locs) {ls : Array Slot} (hl : lv_has ls 4 [(0, .ref b), (1, .ref (adA 0)), (2, .ref (adB 0)), (3, .int (nI i))]) : W p l e room_1 s m #[Value.ref b] below meth c H locs 68 4074 (lw_Z below #[Value.ref b] s) (F0 m 781 ls []) := by
  have hx := hC.1
  have hb := hC.2.1
  have h1 : vp_in ((nI i) + 1) L := zl_in (k := 1) hi6 hLL (by decide)
  have h2 : vp_in ((nI i) + 2) L := zl_in (k := 2) hi6 hLL (by decide)
  have h3 : vp_in ((nI i) + 3) L := zl_in (k := 3) hi6 hLL (by decide)
  have h4 : vp_in ((nI i) + 4) L := zl_in (k := 4) hi6 hLL (by decide)
  have h5 : vp_in ((nI i) + 5) L := zl_in (k := 5) hi6 hLL (by decide)
  refine lv_aload_n hx hb dL_law_781 rfl (lv_at hl 1 rfl) ?_
  refine lv_aload_n hx hb dL_law_782 rfl (lv_at hl 0 rfl) ?_
  refine lv_iload_n hx hb dL_law_783 rfl (lv_at hl 3 rfl) ?_
  refine lv_iconst (v := 1) hx hb dL_law_784 (by decide) ?_
  refine lv_iadd hx hb dL_law_785 ?_
  refine zl_ld hC hX hbl hV h1 e1 dL_law_786 ?_
  obtain ⟨r, σ1, τ1, hq1, hq2, hR⟩ := T_fits hR a1
  refine zl_ai hL hV (zl_run (u := 0) (As := [.int a1]) (rest := []) hC hV.1 hV.2.2 hL.1 (by decide +kernel) (mX7_fits a1 σ hL.2.2.1 hq1) cv_L_95 zck_0_0 rfl ⟨⟨rfl, rfl⟩, Nat.le_of_ble_eq_true rfl, Nat.le_of_ble_eq_true rfl⟩ (zlv_size hl) rfl (Nat.le_of_ble_eq_true rfl) dL_law_787) (fun H locs hV => ?_)
  refine lv_aload_n hx hb dL_law_790 rfl (lv_at hl 2 rfl) ?_
  refine lv_aload_n hx hb dL_law_791 rfl (lv_at hl 0 rfl) ?_
  refine lv_iload_n hx hb dL_law_792 rfl (lv_at hl 3 rfl) ?_
  refine lv_iconst (v := 1) hx hb dL_law_793 (by decide) ?_
  refine lv_iadd hx hb dL_law_794 ?_
  refine zl_ld hC hX hbl hV h1 e1 dL_law_795 ?_
  refine zl_bi hL hV (zl_run (u := 1) (As := [.int a1]) (rest := [.int r]) hC hV.2.1 hV.2.2 hL.2.1 (by decide +kernel) (mX8_fits a1 τ hL.2.2.2.1 hq2) cv_L_98 zck_1_0 rfl ⟨⟨rfl, rfl⟩, Nat.le_of_ble_eq_true rfl, Nat.le_of_ble_eq_true rfl⟩ (zlv_size hl) rfl (Nat.le_of_ble_eq_true rfl) dL_law_796) (fun H locs hV => ?_)
  refine lv_icmp_eq (tgt := 1335) hx hb dL_law_799 (by decide) (fun _ => ?_) (fun hc => absurd rfl hc)
  refine lv_iinc (v := nI (i + 6)) (lv' := [(3, .int (nI (i + 6))), (0, .ref b), (1, .ref (adA 0)), (2, .ref (adB 0))]) hx hb dL_law_1335 hl (k := 3) rfl (nI_add i 6) (by decide) rfl (fun ls hl => ?_)
  refine lv_goto (tgt := 18) hx hb dL_law_1338 (by decide) ?_
  exact ih (i + 6) _ σ1 τ1 (by omega) (by omega) hR _ _ hV ls (lv_sub hl [1, 2, 3, 0] rfl) rfl

set_option maxHeartbeats 4000000 in
set_option maxRecDepth 100000 in
theorem lw_case_20 {p : Program} {l : Launch} {e : Env} {s : State} {m : MethodId} {below : List Frame} {meth : Method} {c : Code} {b L : Nat} {xs : Nat → Int32} {D : va_G} {cI cJ : ClassId} {adA adB : Nat → Nat} (hC : zLx p s m c #[Value.ref b] D cI cJ) (hL : zLa s adA adB) (hX : va_X b L xs s s.heap) (hbl : b < s.heap.size) (hLL : L ≤ 3072) {n : Nat}
    (ih : ∀ (i : Nat) (x3 : Int32) (σ τ : zkS), i ≤ L → L + 1 ≤ i + n → zRel σ τ → ∀ (H : Heap) (locs : List Loc), zLo D cI cJ adA adB s σ τ H locs → ∀ (ls : Array Slot), lv_has ls 4 [(0, .ref b), (1, .ref (adA 0)), (2, .ref (adB 0)), (3, .int x3)] → x3 = nI i → W p l e room_1 s m #[Value.ref b] below meth c H locs 68 4074 (lw_Z below #[Value.ref b] s) (F0 m 18 ls [])) {i : Nat} {σ τ : zkS} (hi6 : i + 6 ≤ L) (hin : L + 1 ≤ i + (n + 1)) (hR : zRel σ τ) {a1 a2 a3 a4 a5 : Int32} (e1 : xs ((nI i) + 1).toNatClampNeg = a1) (e2 : xs ((nI i) + 2).toNatClampNeg = a2) (e3 : xs ((nI i) + 3).toNatClampNeg = a3) (e4 : xs ((nI i) + 4).toNatClampNeg = a4) (e5 : xs ((nI i) + 5).toNatClampNeg = a5)
    {H : Heap} {locs : List Loc} (hV : zLo D cI cJ adA adB s σ τ H locs) {ls : Array Slot} (hl : lv_has ls 4 [(0, .ref b), (1, .ref (adA 0)), (2, .ref (adB 0)), (3, .int (nI i))]) : W p l e room_1 s m #[Value.ref b] below meth c H locs 68 4074 (lw_Z below #[Value.ref b] s) (F0 m 804 ls []) := by
  have hx := hC.1
  have hb := hC.2.1
  have h1 : vp_in ((nI i) + 1) L := zl_in (k := 1) hi6 hLL (by decide)
  have h2 : vp_in ((nI i) + 2) L := zl_in (k := 2) hi6 hLL (by decide)
  have h3 : vp_in ((nI i) + 3) L := zl_in (k := 3) hi6 hLL (by decide)
  have h4 : vp_in ((nI i) + 4) L := zl_in (k := 4) hi6 hLL (by decide)
  have h5 : vp_in ((nI i) + 5) L := zl_in (k := 5) hi6 hLL (by decide)
  refine lv_aload_n hx hb dL_law_804 rfl (lv_at hl 1 rfl) ?_
  refine lv_aload_n hx hb dL_law_805 rfl (lv_at hl 0 rfl) ?_
  refine lv_iload_n hx hb dL_law_806 rfl (lv_at hl 3 rfl) ?_
  refine lv_iconst (v := 1) hx hb dL_law_807 (by decide) ?_
  refine lv_iadd hx hb dL_law_808 ?_
  refine zl_ld hC hX hbl hV h1 e1 dL_law_809 ?_
  refine lv_aload_n hx hb dL_law_810 rfl (lv_at hl 0 rfl) ?_
  refine lv_iload_n hx hb dL_law_811 rfl (lv_at hl 3 rfl) ?_
  refine lv_iconst (v := 2) hx hb dL_law_812 (by decide) ?_
  refine lv_iadd hx hb dL_law_813 ?_
  refine zl_ld hC hX hbl hV h2 e2 dL_law_814 ?_
  refine lv_aload_n hx hb dL_law_815 rfl (lv_at hl 0 rfl) ?_
  refine lv_iload_n hx hb dL_law_816 rfl (lv_at hl 3 rfl) ?_
  refine lv_iconst (v := 3) hx hb dL_law_817 (by decide) ?_
  refine lv_iadd hx hb dL_law_818 ?_
  refine zl_ld hC hX hbl hV h3 e3 dL_law_819 ?_
  obtain ⟨r, σ1, τ1, hq1, hq2, hR⟩ := T_can hR a1 a2 a3
  refine zl_ai hL hV (zl_run (u := 0) (As := [.int a1, .int a2, .int a3]) (rest := []) hC hV.1 hV.2.2 hL.1 (by decide +kernel) (mX7_can a1 a2 a3 σ hL.2.2.1 hq1) cv_L_99 zck_0_0 rfl ⟨⟨rfl, rfl⟩, Nat.le_of_ble_eq_true rfl, Nat.le_of_ble_eq_true rfl⟩ (zlv_size hl) rfl (Nat.le_of_ble_eq_true rfl) dL_law_820) (fun H locs hV => ?_)
  refine lv_aload_n hx hb dL_law_823 rfl (lv_at hl 2 rfl) ?_
  refine lv_aload_n hx hb dL_law_824 rfl (lv_at hl 0 rfl) ?_
  refine lv_iload_n hx hb dL_law_825 rfl (lv_at hl 3 rfl) ?_
  refine lv_iconst (v := 1) hx hb dL_law_826 (by decide) ?_
  refine lv_iadd hx hb dL_law_827 ?_
  refine zl_ld hC hX hbl hV h1 e1 dL_law_828 ?_
  refine lv_aload_n hx hb dL_law_829 rfl (lv_at hl 0 rfl) ?_
  refine lv_iload_n hx hb dL_law_830 rfl (lv_at hl 3 rfl) ?_
  refine lv_iconst (v := 2) hx hb dL_law_831 (by decide) ?_
  refine lv_iadd hx hb dL_law_832 ?_
  refine zl_ld hC hX hbl hV h2 e2 dL_law_833 ?_
  refine lv_aload_n hx hb dL_law_834 rfl (lv_at hl 0 rfl) ?_
  refine lv_iload_n hx hb dL_law_835 rfl (lv_at hl 3 rfl) ?_
  refine lv_iconst (v := 3) hx hb dL_law_836 (by decide) ?_
  refine lv_iadd hx hb dL_law_837 ?_
  refine zl_ld hC hX hbl hV h3 e3 dL_law_838 ?_
  refine zl_bi hL hV (zl_run (u := 1) (As := [.int a1, .int a2, .int a3]) (rest := [.int r]) hC hV.2.1 hV.2.2 hL.2.1 (by decide +kernel) (mX8_can a1 a2 a3 τ hL.2.2.2.1 hq2) cv_L_102 zck_1_0 rfl ⟨⟨rfl, rfl⟩, Nat.le_of_ble_eq_true rfl, Nat.le_of_ble_eq_true rfl⟩ (zlv_size hl) rfl (Nat.le_of_ble_eq_true rfl) dL_law_839) (fun H locs hV => ?_)
  refine lv_icmp_eq (tgt := 1335) hx hb dL_law_842 (by decide) (fun _ => ?_) (fun hc => absurd rfl hc)
  refine lv_iinc (v := nI (i + 6)) (lv' := [(3, .int (nI (i + 6))), (0, .ref b), (1, .ref (adA 0)), (2, .ref (adB 0))]) hx hb dL_law_1335 hl (k := 3) rfl (nI_add i 6) (by decide) rfl (fun ls hl => ?_)
  refine lv_goto (tgt := 18) hx hb dL_law_1338 (by decide) ?_
  exact ih (i + 6) _ σ1 τ1 (by omega) (by omega) hR _ _ hV ls (lv_sub hl [1, 2, 3, 0] rfl) rfl

set_option maxHeartbeats 4000000 in
set_option maxRecDepth 100000 in
theorem lw_case_21 {p : Program} {l : Launch} {e : Env} {s : State} {m : MethodId} {below : List Frame} {meth : Method} {c : Code} {b L : Nat} {xs : Nat → Int32} {D : va_G} {cI cJ : ClassId} {adA adB : Nat → Nat} (hC : zLx p s m c #[Value.ref b] D cI cJ) (hL : zLa s adA adB) (hX : va_X b L xs s s.heap) (hbl : b < s.heap.size) (hLL : L ≤ 3072) {n : Nat}
    (ih : ∀ (i : Nat) (x3 : Int32) (σ τ : zkS), i ≤ L → L + 1 ≤ i + n → zRel σ τ → ∀ (H : Heap) (locs : List Loc), zLo D cI cJ adA adB s σ τ H locs → ∀ (ls : Array Slot), lv_has ls 4 [(0, .ref b), (1, .ref (adA 0)), (2, .ref (adB 0)), (3, .int x3)] → x3 = nI i → W p l e room_1 s m #[Value.ref b] below meth c H locs 68 4074 (lw_Z below #[Value.ref b] s) (F0 m 18 ls [])) {i : Nat} {σ τ : zkS} (hi6 : i + 6 ≤ L) (hin : L + 1 ≤ i + (n + 1)) (hR : zRel σ τ) {a1 a2 a3 a4 a5 : Int32} (e1 : xs ((nI i) + 1).toNatClampNeg = a1) (e2 : xs ((nI i) + 2).toNatClampNeg = a2) (e3 : xs ((nI i) + 3).toNatClampNeg = a3) (e4 : xs ((nI i) + 4).toNatClampNeg = a4) (e5 : xs ((nI i) + 5).toNatClampNeg = a5)
    {H : Heap} {locs : List Loc} (hV : zLo D cI cJ adA adB s σ τ H locs) {ls : Array Slot} (hl : lv_has ls 4 [(0, .ref b), (1, .ref (adA 0)), (2, .ref (adB 0)), (3, .int (nI i))]) : W p l e room_1 s m #[Value.ref b] below meth c H locs 68 4074 (lw_Z below #[Value.ref b] s) (F0 m 847 ls []) := by
  have hx := hC.1
  have hb := hC.2.1
  have h1 : vp_in ((nI i) + 1) L := zl_in (k := 1) hi6 hLL (by decide)
  have h2 : vp_in ((nI i) + 2) L := zl_in (k := 2) hi6 hLL (by decide)
  have h3 : vp_in ((nI i) + 3) L := zl_in (k := 3) hi6 hLL (by decide)
  have h4 : vp_in ((nI i) + 4) L := zl_in (k := 4) hi6 hLL (by decide)
  have h5 : vp_in ((nI i) + 5) L := zl_in (k := 5) hi6 hLL (by decide)
  refine lv_aload_n hx hb dL_law_847 rfl (lv_at hl 1 rfl) ?_
  refine lv_aload_n hx hb dL_law_848 rfl (lv_at hl 0 rfl) ?_
  refine lv_iload_n hx hb dL_law_849 rfl (lv_at hl 3 rfl) ?_
  refine lv_iconst (v := 1) hx hb dL_law_850 (by decide) ?_
  refine lv_iadd hx hb dL_law_851 ?_
  refine zl_ld hC hX hbl hV h1 e1 dL_law_852 ?_
  refine lv_aload_n hx hb dL_law_853 rfl (lv_at hl 0 rfl) ?_
  refine lv_iload_n hx hb dL_law_854 rfl (lv_at hl 3 rfl) ?_
  refine lv_iconst (v := 2) hx hb dL_law_855 (by decide) ?_
  refine lv_iadd hx hb dL_law_856 ?_
  refine zl_ld hC hX hbl hV h2 e2 dL_law_857 ?_
  obtain ⟨r, σ1, τ1, hq1, hq2, hR⟩ := T_odds hR a1 a2
  refine zl_al hL hV (zl_run (u := 0) (As := [.int a1, .int a2]) (rest := []) hC hV.1 hV.2.2 hL.1 (by decide +kernel) (mX7_odds a1 a2 σ hL.2.2.1 hq1) cv_L_103 zck_0_0 rfl ⟨⟨rfl, rfl⟩, Nat.le_of_ble_eq_true rfl, Nat.le_of_ble_eq_true rfl⟩ (zlv_size hl) rfl (Nat.le_of_ble_eq_true rfl) dL_law_858) (fun H locs hV => ?_)
  refine lv_aload_n hx hb dL_law_861 rfl (lv_at hl 2 rfl) ?_
  refine lv_aload_n hx hb dL_law_862 rfl (lv_at hl 0 rfl) ?_
  refine lv_iload_n hx hb dL_law_863 rfl (lv_at hl 3 rfl) ?_
  refine lv_iconst (v := 1) hx hb dL_law_864 (by decide) ?_
  refine lv_iadd hx hb dL_law_865 ?_
  refine zl_ld hC hX hbl hV h1 e1 dL_law_866 ?_
  refine lv_aload_n hx hb dL_law_867 rfl (lv_at hl 0 rfl) ?_
  refine lv_iload_n hx hb dL_law_868 rfl (lv_at hl 3 rfl) ?_
  refine lv_iconst (v := 2) hx hb dL_law_869 (by decide) ?_
  refine lv_iadd hx hb dL_law_870 ?_
  refine zl_ld hC hX hbl hV h2 e2 dL_law_871 ?_
  refine zl_bl hL hV (zl_run (u := 1) (As := [.int a1, .int a2]) (rest := [.long r]) hC hV.2.1 hV.2.2 hL.2.1 (by decide +kernel) (mX8_odds a1 a2 τ hL.2.2.2.1 hq2) cv_L_107 zck_1_0 rfl ⟨⟨rfl, rfl⟩, Nat.le_of_ble_eq_true rfl, Nat.le_of_ble_eq_true rfl⟩ (zlv_size hl) rfl (Nat.le_of_ble_eq_true rfl) dL_law_872) (fun H locs hV => ?_)
  refine W.lcmp hx hb dL_law_875 ?_
  refine lv_if_eq (tgt := 1335) hx hb dL_law_876 (by decide) (fun _ => ?_) (fun hc => absurd (zl_cmp r) hc)
  refine lv_iinc (v := nI (i + 6)) (lv' := [(3, .int (nI (i + 6))), (0, .ref b), (1, .ref (adA 0)), (2, .ref (adB 0))]) hx hb dL_law_1335 hl (k := 3) rfl (nI_add i 6) (by decide) rfl (fun ls hl => ?_)
  refine lv_goto (tgt := 18) hx hb dL_law_1338 (by decide) ?_
  exact ih (i + 6) _ σ1 τ1 (by omega) (by omega) hR _ _ hV ls (lv_sub hl [1, 2, 3, 0] rfl) rfl

set_option maxHeartbeats 4000000 in
set_option maxRecDepth 100000 in
theorem lw_case_22 {p : Program} {l : Launch} {e : Env} {s : State} {m : MethodId} {below : List Frame} {meth : Method} {c : Code} {b L : Nat} {xs : Nat → Int32} {D : va_G} {cI cJ : ClassId} {adA adB : Nat → Nat} (hC : zLx p s m c #[Value.ref b] D cI cJ) (hL : zLa s adA adB) (hX : va_X b L xs s s.heap) (hbl : b < s.heap.size) (hLL : L ≤ 3072) {n : Nat}
    (ih : ∀ (i : Nat) (x3 : Int32) (σ τ : zkS), i ≤ L → L + 1 ≤ i + n → zRel σ τ → ∀ (H : Heap) (locs : List Loc), zLo D cI cJ adA adB s σ τ H locs → ∀ (ls : Array Slot), lv_has ls 4 [(0, .ref b), (1, .ref (adA 0)), (2, .ref (adB 0)), (3, .int x3)] → x3 = nI i → W p l e room_1 s m #[Value.ref b] below meth c H locs 68 4074 (lw_Z below #[Value.ref b] s) (F0 m 18 ls [])) {i : Nat} {σ τ : zkS} (hi6 : i + 6 ≤ L) (hin : L + 1 ≤ i + (n + 1)) (hR : zRel σ τ) {a1 a2 a3 a4 a5 : Int32} (e1 : xs ((nI i) + 1).toNatClampNeg = a1) (e2 : xs ((nI i) + 2).toNatClampNeg = a2) (e3 : xs ((nI i) + 3).toNatClampNeg = a3) (e4 : xs ((nI i) + 4).toNatClampNeg = a4) (e5 : xs ((nI i) + 5).toNatClampNeg = a5)
    {H : Heap} {locs : List Loc} (hV : zLo D cI cJ adA adB s σ τ H locs) {ls : Array Slot} (hl : lv_has ls 4 [(0, .ref b), (1, .ref (adA 0)), (2, .ref (adB 0)), (3, .int (nI i))]) : W p l e room_1 s m #[Value.ref b] below meth c H locs 68 4074 (lw_Z below #[Value.ref b] s) (F0 m 881 ls []) := by
  have hx := hC.1
  have hb := hC.2.1
  have h1 : vp_in ((nI i) + 1) L := zl_in (k := 1) hi6 hLL (by decide)
  have h2 : vp_in ((nI i) + 2) L := zl_in (k := 2) hi6 hLL (by decide)
  have h3 : vp_in ((nI i) + 3) L := zl_in (k := 3) hi6 hLL (by decide)
  have h4 : vp_in ((nI i) + 4) L := zl_in (k := 4) hi6 hLL (by decide)
  have h5 : vp_in ((nI i) + 5) L := zl_in (k := 5) hi6 hLL (by decide)
  refine lv_aload_n hx hb dL_law_881 rfl (lv_at hl 1 rfl) ?_
  refine lv_aload_n hx hb dL_law_882 rfl (lv_at hl 0 rfl) ?_
  refine lv_iload_n hx hb dL_law_883 rfl (lv_at hl 3 rfl) ?_
  refine lv_iconst (v := 1) hx hb dL_law_884 (by decide) ?_
  refine lv_iadd hx hb dL_law_885 ?_
  refine zl_ld hC hX hbl hV h1 e1 dL_law_886 ?_
  obtain ⟨r, σ1, hq1, hq2, hR⟩ := T_mean hR a1
  refine zl_al hL hV (zl_run (u := 0) (As := [.int a1]) (rest := []) hC hV.1 hV.2.2 hL.1 (by decide +kernel) (mX7_mean a1 σ hL.2.2.1 hq1) cv_L_108 zck_0_0 rfl ⟨⟨rfl, rfl⟩, Nat.le_of_ble_eq_true rfl, Nat.le_of_ble_eq_true rfl⟩ (zlv_size hl) rfl (Nat.le_of_ble_eq_true rfl) dL_law_887) (fun H locs hV => ?_)
  refine lv_aload_n hx hb dL_law_890 rfl (lv_at hl 2 rfl) ?_
  refine lv_aload_n hx hb dL_law_891 rfl (lv_at hl 0 rfl) ?_
  refine lv_iload_n hx hb dL_law_892 rfl (lv_at hl 3 rfl) ?_
  refine lv_iconst (v := 1) hx hb dL_law_893 (by decide) ?_
  refine lv_iadd hx hb dL_law_894 ?_
  refine zl_ld hC hX hbl hV h1 e1 dL_law_895 ?_
  refine zl_bl hL hV (zl_run (u := 1) (As := [.int a1]) (rest := [.long r]) hC hV.2.1 hV.2.2 hL.2.1 (by decide +kernel) (mX8_mean a1 τ hL.2.2.2.1 hq2) cv_L_112 zck_1_0 rfl ⟨⟨rfl, rfl⟩, Nat.le_of_ble_eq_true rfl, Nat.le_of_ble_eq_true rfl⟩ (zlv_size hl) rfl (Nat.le_of_ble_eq_true rfl) dL_law_896) (fun H locs hV => ?_)
  refine W.lcmp hx hb dL_law_899 ?_
  refine lv_if_eq (tgt := 1335) hx hb dL_law_900 (by decide) (fun _ => ?_) (fun hc => absurd (zl_cmp r) hc)
  refine lv_iinc (v := nI (i + 6)) (lv' := [(3, .int (nI (i + 6))), (0, .ref b), (1, .ref (adA 0)), (2, .ref (adB 0))]) hx hb dL_law_1335 hl (k := 3) rfl (nI_add i 6) (by decide) rfl (fun ls hl => ?_)
  refine lv_goto (tgt := 18) hx hb dL_law_1338 (by decide) ?_
  exact ih (i + 6) _ σ1 τ (by omega) (by omega) hR _ _ hV ls (lv_sub hl [1, 2, 3, 0] rfl) rfl

set_option maxHeartbeats 4000000 in
set_option maxRecDepth 100000 in
theorem lw_case_23 {p : Program} {l : Launch} {e : Env} {s : State} {m : MethodId} {below : List Frame} {meth : Method} {c : Code} {b L : Nat} {xs : Nat → Int32} {D : va_G} {cI cJ : ClassId} {adA adB : Nat → Nat} (hC : zLx p s m c #[Value.ref b] D cI cJ) (hL : zLa s adA adB) (hX : va_X b L xs s s.heap) (hbl : b < s.heap.size) (hLL : L ≤ 3072) {n : Nat}
    (ih : ∀ (i : Nat) (x3 : Int32) (σ τ : zkS), i ≤ L → L + 1 ≤ i + n → zRel σ τ → ∀ (H : Heap) (locs : List Loc), zLo D cI cJ adA adB s σ τ H locs → ∀ (ls : Array Slot), lv_has ls 4 [(0, .ref b), (1, .ref (adA 0)), (2, .ref (adB 0)), (3, .int x3)] → x3 = nI i → W p l e room_1 s m #[Value.ref b] below meth c H locs 68 4074 (lw_Z below #[Value.ref b] s) (F0 m 18 ls [])) {i : Nat} {σ τ : zkS} (hi6 : i + 6 ≤ L) (hin : L + 1 ≤ i + (n + 1)) (hR : zRel σ τ) {a1 a2 a3 a4 a5 : Int32} (e1 : xs ((nI i) + 1).toNatClampNeg = a1) (e2 : xs ((nI i) + 2).toNatClampNeg = a2) (e3 : xs ((nI i) + 3).toNatClampNeg = a3) (e4 : xs ((nI i) + 4).toNatClampNeg = a4) (e5 : xs ((nI i) + 5).toNatClampNeg = a5)
    {H : Heap} {locs : List Loc} (hV : zLo D cI cJ adA adB s σ τ H locs) {ls : Array Slot} (hl : lv_has ls 4 [(0, .ref b), (1, .ref (adA 0)), (2, .ref (adB 0)), (3, .int (nI i))]) : W p l e room_1 s m #[Value.ref b] below meth c H locs 68 4074 (lw_Z below #[Value.ref b] s) (F0 m 905 ls []) := by
  have hx := hC.1
  have hb := hC.2.1
  have h1 : vp_in ((nI i) + 1) L := zl_in (k := 1) hi6 hLL (by decide)
  have h2 : vp_in ((nI i) + 2) L := zl_in (k := 2) hi6 hLL (by decide)
  have h3 : vp_in ((nI i) + 3) L := zl_in (k := 3) hi6 hLL (by decide)
  have h4 : vp_in ((nI i) + 4) L := zl_in (k := 4) hi6 hLL (by decide)
  have h5 : vp_in ((nI i) + 5) L := zl_in (k := 5) hi6 hLL (by decide)
  refine lv_aload_n hx hb dL_law_905 rfl (lv_at hl 1 rfl) ?_
  refine lv_aload_n hx hb dL_law_906 rfl (lv_at hl 0 rfl) ?_
  refine lv_iload_n hx hb dL_law_907 rfl (lv_at hl 3 rfl) ?_
  refine lv_iconst (v := 1) hx hb dL_law_908 (by decide) ?_
  refine lv_iadd hx hb dL_law_909 ?_
  refine zl_ld hC hX hbl hV h1 e1 dL_law_910 ?_
  refine lv_aload_n hx hb dL_law_911 rfl (lv_at hl 0 rfl) ?_
  refine lv_iload_n hx hb dL_law_912 rfl (lv_at hl 3 rfl) ?_
  refine lv_iconst (v := 2) hx hb dL_law_913 (by decide) ?_
  refine lv_iadd hx hb dL_law_914 ?_
  refine zl_ld hC hX hbl hV h2 e2 dL_law_915 ?_
  obtain ⟨r, σ1, τ1, hq1, hq2, hR⟩ := T_plan hR a1 a2
  refine zl_ai hL hV (zl_run (u := 0) (As := [.int a1, .int a2]) (rest := []) hC hV.1 hV.2.2 hL.1 (by decide +kernel) (mX7_plan a1 a2 σ hL.2.2.1 hq1) cv_L_113 zck_0_0 rfl ⟨⟨rfl, rfl⟩, Nat.le_of_ble_eq_true rfl, Nat.le_of_ble_eq_true rfl⟩ (zlv_size hl) rfl (Nat.le_of_ble_eq_true rfl) dL_law_916) (fun H locs hV => ?_)
  refine lv_aload_n hx hb dL_law_919 rfl (lv_at hl 2 rfl) ?_
  refine lv_aload_n hx hb dL_law_920 rfl (lv_at hl 0 rfl) ?_
  refine lv_iload_n hx hb dL_law_921 rfl (lv_at hl 3 rfl) ?_
  refine lv_iconst (v := 1) hx hb dL_law_922 (by decide) ?_
  refine lv_iadd hx hb dL_law_923 ?_
  refine zl_ld hC hX hbl hV h1 e1 dL_law_924 ?_
  refine lv_aload_n hx hb dL_law_925 rfl (lv_at hl 0 rfl) ?_
  refine lv_iload_n hx hb dL_law_926 rfl (lv_at hl 3 rfl) ?_
  refine lv_iconst (v := 2) hx hb dL_law_927 (by decide) ?_
  refine lv_iadd hx hb dL_law_928 ?_
  refine zl_ld hC hX hbl hV h2 e2 dL_law_929 ?_
  refine zl_bi hL hV (zl_run (u := 1) (As := [.int a1, .int a2]) (rest := [.int r]) hC hV.2.1 hV.2.2 hL.2.1 (by decide +kernel) (mX8_plan a1 a2 τ hL.2.2.2.1 hq2) cv_L_116 zck_1_0 rfl ⟨⟨rfl, rfl⟩, Nat.le_of_ble_eq_true rfl, Nat.le_of_ble_eq_true rfl⟩ (zlv_size hl) rfl (Nat.le_of_ble_eq_true rfl) dL_law_930) (fun H locs hV => ?_)
  refine lv_icmp_eq (tgt := 1335) hx hb dL_law_933 (by decide) (fun _ => ?_) (fun hc => absurd rfl hc)
  refine lv_iinc (v := nI (i + 6)) (lv' := [(3, .int (nI (i + 6))), (0, .ref b), (1, .ref (adA 0)), (2, .ref (adB 0))]) hx hb dL_law_1335 hl (k := 3) rfl (nI_add i 6) (by decide) rfl (fun ls hl => ?_)
  refine lv_goto (tgt := 18) hx hb dL_law_1338 (by decide) ?_
  exact ih (i + 6) _ σ1 τ1 (by omega) (by omega) hR _ _ hV ls (lv_sub hl [1, 2, 3, 0] rfl) rfl

set_option maxHeartbeats 4000000 in
set_option maxRecDepth 100000 in
theorem lw_case_24 {p : Program} {l : Launch} {e : Env} {s : State} {m : MethodId} {below : List Frame} {meth : Method} {c : Code} {b L : Nat} {xs : Nat → Int32} {D : va_G} {cI cJ : ClassId} {adA adB : Nat → Nat} (hC : zLx p s m c #[Value.ref b] D cI cJ) (hL : zLa s adA adB) (hX : va_X b L xs s s.heap) (hbl : b < s.heap.size) (hLL : L ≤ 3072) {n : Nat}
    (ih : ∀ (i : Nat) (x3 : Int32) (σ τ : zkS), i ≤ L → L + 1 ≤ i + n → zRel σ τ → ∀ (H : Heap) (locs : List Loc), zLo D cI cJ adA adB s σ τ H locs → ∀ (ls : Array Slot), lv_has ls 4 [(0, .ref b), (1, .ref (adA 0)), (2, .ref (adB 0)), (3, .int x3)] → x3 = nI i → W p l e room_1 s m #[Value.ref b] below meth c H locs 68 4074 (lw_Z below #[Value.ref b] s) (F0 m 18 ls [])) {i : Nat} {σ τ : zkS} (hi6 : i + 6 ≤ L) (hin : L + 1 ≤ i + (n + 1)) (hR : zRel σ τ) {a1 a2 a3 a4 a5 : Int32} (e1 : xs ((nI i) + 1).toNatClampNeg = a1) (e2 : xs ((nI i) + 2).toNatClampNeg = a2) (e3 : xs ((nI i) + 3).toNatClampNeg = a3) (e4 : xs ((nI i) + 4).toNatClampNeg = a4) (e5 : xs ((nI i) + 5).toNatClampNeg = a5)
    {H : Heap} {locs : List Loc} (hV : zLo D cI cJ adA adB s σ τ H locs) {ls : Array Slot} (hl : lv_has ls 4 [(0, .ref b), (1, .ref (adA 0)), (2, .ref (adB 0)), (3, .int (nI i))]) : W p l e room_1 s m #[Value.ref b] below meth c H locs 68 4074 (lw_Z below #[Value.ref b] s) (F0 m 938 ls []) := by
  have hx := hC.1
  have hb := hC.2.1
  have h1 : vp_in ((nI i) + 1) L := zl_in (k := 1) hi6 hLL (by decide)
  have h2 : vp_in ((nI i) + 2) L := zl_in (k := 2) hi6 hLL (by decide)
  have h3 : vp_in ((nI i) + 3) L := zl_in (k := 3) hi6 hLL (by decide)
  have h4 : vp_in ((nI i) + 4) L := zl_in (k := 4) hi6 hLL (by decide)
  have h5 : vp_in ((nI i) + 5) L := zl_in (k := 5) hi6 hLL (by decide)
  refine lv_aload_n hx hb dL_law_938 rfl (lv_at hl 1 rfl) ?_
  obtain ⟨r, σ1, τ1, hq1, hq2, hR⟩ := T_ends hR
  refine zl_ai hL hV (zl_run (u := 0) (As := []) (rest := []) hC hV.1 hV.2.2 hL.1 (by decide +kernel) (mX7_ends  σ hL.2.2.1 hq1) cv_L_117 zck_0_0 rfl ⟨⟨rfl, rfl⟩, Nat.le_of_ble_eq_true rfl, Nat.le_of_ble_eq_true rfl⟩ (zlv_size hl) rfl (Nat.le_of_ble_eq_true rfl) dL_law_939) (fun H locs hV => ?_)
  refine lv_aload_n hx hb dL_law_942 rfl (lv_at hl 2 rfl) ?_
  refine zl_bi hL hV (zl_run (u := 1) (As := []) (rest := [.int r]) hC hV.2.1 hV.2.2 hL.2.1 (by decide +kernel) (mX8_ends  τ hL.2.2.2.1 hq2) cv_L_120 zck_1_0 rfl ⟨⟨rfl, rfl⟩, Nat.le_of_ble_eq_true rfl, Nat.le_of_ble_eq_true rfl⟩ (zlv_size hl) rfl (Nat.le_of_ble_eq_true rfl) dL_law_943) (fun H locs hV => ?_)
  refine lv_icmp_eq (tgt := 1335) hx hb dL_law_946 (by decide) (fun _ => ?_) (fun hc => absurd rfl hc)
  refine lv_iinc (v := nI (i + 6)) (lv' := [(3, .int (nI (i + 6))), (0, .ref b), (1, .ref (adA 0)), (2, .ref (adB 0))]) hx hb dL_law_1335 hl (k := 3) rfl (nI_add i 6) (by decide) rfl (fun ls hl => ?_)
  refine lv_goto (tgt := 18) hx hb dL_law_1338 (by decide) ?_
  exact ih (i + 6) _ σ1 τ1 (by omega) (by omega) hR _ _ hV ls (lv_sub hl [1, 2, 3, 0] rfl) rfl

set_option maxHeartbeats 4000000 in
set_option maxRecDepth 100000 in
theorem lw_case_25 {p : Program} {l : Launch} {e : Env} {s : State} {m : MethodId} {below : List Frame} {meth : Method} {c : Code} {b L : Nat} {xs : Nat → Int32} {D : va_G} {cI cJ : ClassId} {adA adB : Nat → Nat} (hC : zLx p s m c #[Value.ref b] D cI cJ) (hL : zLa s adA adB) (hX : va_X b L xs s s.heap) (hbl : b < s.heap.size) (hLL : L ≤ 3072) {n : Nat}
    (ih : ∀ (i : Nat) (x3 : Int32) (σ τ : zkS), i ≤ L → L + 1 ≤ i + n → zRel σ τ → ∀ (H : Heap) (locs : List Loc), zLo D cI cJ adA adB s σ τ H locs → ∀ (ls : Array Slot), lv_has ls 4 [(0, .ref b), (1, .ref (adA 0)), (2, .ref (adB 0)), (3, .int x3)] → x3 = nI i → W p l e room_1 s m #[Value.ref b] below meth c H locs 68 4074 (lw_Z below #[Value.ref b] s) (F0 m 18 ls [])) {i : Nat} {σ τ : zkS} (hi6 : i + 6 ≤ L) (hin : L + 1 ≤ i + (n + 1)) (hR : zRel σ τ) {a1 a2 a3 a4 a5 : Int32} (e1 : xs ((nI i) + 1).toNatClampNeg = a1) (e2 : xs ((nI i) + 2).toNatClampNeg = a2) (e3 : xs ((nI i) + 3).toNatClampNeg = a3) (e4 : xs ((nI i) + 4).toNatClampNeg = a4) (e5 : xs ((nI i) + 5).toNatClampNeg = a5)
    {H : Heap} {locs : List Loc} (hV : zLo D cI cJ adA adB s σ τ H locs) {ls : Array Slot} (hl : lv_has ls 4 [(0, .ref b), (1, .ref (adA 0)), (2, .ref (adB 0)), (3, .int (nI i))]) : W p l e room_1 s m #[Value.ref b] below meth c H locs 68 4074 (lw_Z below #[Value.ref b] s) (F0 m 951 ls []) := by
  have hx := hC.1
  have hb := hC.2.1
  have h1 : vp_in ((nI i) + 1) L := zl_in (k := 1) hi6 hLL (by decide)
  have h2 : vp_in ((nI i) + 2) L := zl_in (k := 2) hi6 hLL (by decide)
  have h3 : vp_in ((nI i) + 3) L := zl_in (k := 3) hi6 hLL (by decide)
  have h4 : vp_in ((nI i) + 4) L := zl_in (k := 4) hi6 hLL (by decide)
  have h5 : vp_in ((nI i) + 5) L := zl_in (k := 5) hi6 hLL (by decide)
  refine lv_aload_n hx hb dL_law_951 rfl (lv_at hl 1 rfl) ?_
  refine lv_aload_n hx hb dL_law_952 rfl (lv_at hl 0 rfl) ?_
  refine lv_iload_n hx hb dL_law_953 rfl (lv_at hl 3 rfl) ?_
  refine lv_iconst (v := 1) hx hb dL_law_954 (by decide) ?_
  refine lv_iadd hx hb dL_law_955 ?_
  refine zl_ld hC hX hbl hV h1 e1 dL_law_956 ?_
  refine lv_aload_n hx hb dL_law_957 rfl (lv_at hl 0 rfl) ?_
  refine lv_iload_n hx hb dL_law_958 rfl (lv_at hl 3 rfl) ?_
  refine lv_iconst (v := 2) hx hb dL_law_959 (by decide) ?_
  refine lv_iadd hx hb dL_law_960 ?_
  refine zl_ld hC hX hbl hV h2 e2 dL_law_961 ?_
  refine lv_aload_n hx hb dL_law_962 rfl (lv_at hl 0 rfl) ?_
  refine lv_iload_n hx hb dL_law_963 rfl (lv_at hl 3 rfl) ?_
  refine lv_iconst (v := 3) hx hb dL_law_964 (by decide) ?_
  refine lv_iadd hx hb dL_law_965 ?_
  refine zl_ld hC hX hbl hV h3 e3 dL_law_966 ?_
  obtain ⟨r, σ1, τ1, hq1, hq2, hR⟩ := T_book hR a1 a2 a3
  refine zl_ai hL hV (zl_run (u := 0) (As := [.int a1, .int a2, .int a3]) (rest := []) hC hV.1 hV.2.2 hL.1 (by decide +kernel) (mX7_book a1 a2 a3 σ hL.2.2.1 hq1) cv_L_121 zck_0_0 rfl ⟨⟨rfl, rfl⟩, Nat.le_of_ble_eq_true rfl, Nat.le_of_ble_eq_true rfl⟩ (zlv_size hl) rfl (Nat.le_of_ble_eq_true rfl) dL_law_967) (fun H locs hV => ?_)
  refine lv_aload_n hx hb dL_law_970 rfl (lv_at hl 2 rfl) ?_
  refine lv_aload_n hx hb dL_law_971 rfl (lv_at hl 0 rfl) ?_
  refine lv_iload_n hx hb dL_law_972 rfl (lv_at hl 3 rfl) ?_
  refine lv_iconst (v := 1) hx hb dL_law_973 (by decide) ?_
  refine lv_iadd hx hb dL_law_974 ?_
  refine zl_ld hC hX hbl hV h1 e1 dL_law_975 ?_
  refine lv_aload_n hx hb dL_law_976 rfl (lv_at hl 0 rfl) ?_
  refine lv_iload_n hx hb dL_law_977 rfl (lv_at hl 3 rfl) ?_
  refine lv_iconst (v := 2) hx hb dL_law_978 (by decide) ?_
  refine lv_iadd hx hb dL_law_979 ?_
  refine zl_ld hC hX hbl hV h2 e2 dL_law_980 ?_
  refine lv_aload_n hx hb dL_law_981 rfl (lv_at hl 0 rfl) ?_
  refine lv_iload_n hx hb dL_law_982 rfl (lv_at hl 3 rfl) ?_
  refine lv_iconst (v := 3) hx hb dL_law_983 (by decide) ?_
  refine lv_iadd hx hb dL_law_984 ?_
  refine zl_ld hC hX hbl hV h3 e3 dL_law_985 ?_
  refine zl_bi hL hV (zl_run (u := 1) (As := [.int a1, .int a2, .int a3]) (rest := [.int r]) hC hV.2.1 hV.2.2 hL.2.1 (by decide +kernel) (mX8_book a1 a2 a3 τ hL.2.2.2.1 hq2) cv_L_124 zck_1_0 rfl ⟨⟨rfl, rfl⟩, Nat.le_of_ble_eq_true rfl, Nat.le_of_ble_eq_true rfl⟩ (zlv_size hl) rfl (Nat.le_of_ble_eq_true rfl) dL_law_986) (fun H locs hV => ?_)
  refine lv_icmp_eq (tgt := 1335) hx hb dL_law_989 (by decide) (fun _ => ?_) (fun hc => absurd rfl hc)
  refine lv_iinc (v := nI (i + 6)) (lv' := [(3, .int (nI (i + 6))), (0, .ref b), (1, .ref (adA 0)), (2, .ref (adB 0))]) hx hb dL_law_1335 hl (k := 3) rfl (nI_add i 6) (by decide) rfl (fun ls hl => ?_)
  refine lv_goto (tgt := 18) hx hb dL_law_1338 (by decide) ?_
  exact ih (i + 6) _ σ1 τ1 (by omega) (by omega) hR _ _ hV ls (lv_sub hl [1, 2, 3, 0] rfl) rfl

set_option maxHeartbeats 4000000 in
set_option maxRecDepth 100000 in
theorem lw_case_26 {p : Program} {l : Launch} {e : Env} {s : State} {m : MethodId} {below : List Frame} {meth : Method} {c : Code} {b L : Nat} {xs : Nat → Int32} {D : va_G} {cI cJ : ClassId} {adA adB : Nat → Nat} (hC : zLx p s m c #[Value.ref b] D cI cJ) (hL : zLa s adA adB) (hX : va_X b L xs s s.heap) (hbl : b < s.heap.size) (hLL : L ≤ 3072) {n : Nat}
    (ih : ∀ (i : Nat) (x3 : Int32) (σ τ : zkS), i ≤ L → L + 1 ≤ i + n → zRel σ τ → ∀ (H : Heap) (locs : List Loc), zLo D cI cJ adA adB s σ τ H locs → ∀ (ls : Array Slot), lv_has ls 4 [(0, .ref b), (1, .ref (adA 0)), (2, .ref (adB 0)), (3, .int x3)] → x3 = nI i → W p l e room_1 s m #[Value.ref b] below meth c H locs 68 4074 (lw_Z below #[Value.ref b] s) (F0 m 18 ls [])) {i : Nat} {σ τ : zkS} (hi6 : i + 6 ≤ L) (hin : L + 1 ≤ i + (n + 1)) (hR : zRel σ τ) {a1 a2 a3 a4 a5 : Int32} (e1 : xs ((nI i) + 1).toNatClampNeg = a1) (e2 : xs ((nI i) + 2).toNatClampNeg = a2) (e3 : xs ((nI i) + 3).toNatClampNeg = a3) (e4 : xs ((nI i) + 4).toNatClampNeg = a4) (e5 : xs ((nI i) + 5).toNatClampNeg = a5)
    {H : Heap} {locs : List Loc} (hV : zLo D cI cJ adA adB s σ τ H locs) {ls : Array Slot} (hl : lv_has ls 4 [(0, .ref b), (1, .ref (adA 0)), (2, .ref (adB 0)), (3, .int (nI i))]) : W p l e room_1 s m #[Value.ref b] below meth c H locs 68 4074 (lw_Z below #[Value.ref b] s) (F0 m 994 ls []) := by
  have hx := hC.1
  have hb := hC.2.1
  have h1 : vp_in ((nI i) + 1) L := zl_in (k := 1) hi6 hLL (by decide)
  have h2 : vp_in ((nI i) + 2) L := zl_in (k := 2) hi6 hLL (by decide)
  have h3 : vp_in ((nI i) + 3) L := zl_in (k := 3) hi6 hLL (by decide)
  have h4 : vp_in ((nI i) + 4) L := zl_in (k := 4) hi6 hLL (by decide)
  have h5 : vp_in ((nI i) + 5) L := zl_in (k := 5) hi6 hLL (by decide)
  refine lv_aload_n hx hb dL_law_994 rfl (lv_at hl 1 rfl) ?_
  obtain ⟨r, hq1, hq2, hR⟩ := T_looked hR
  refine zl_ai hL hV (zl_run (u := 0) (As := []) (rest := []) hC hV.1 hV.2.2 hL.1 (by decide +kernel) (mX7_looked  σ hL.2.2.1 hq1) cv_L_125 zck_0_0 rfl ⟨⟨rfl, rfl⟩, Nat.le_of_ble_eq_true rfl, Nat.le_of_ble_eq_true rfl⟩ (zlv_size hl) rfl (Nat.le_of_ble_eq_true rfl) dL_law_995) (fun H locs hV => ?_)
  refine lv_aload_n hx hb dL_law_998 rfl (lv_at hl 2 rfl) ?_
  refine zl_bi hL hV (zl_run (u := 1) (As := []) (rest := [.int r]) hC hV.2.1 hV.2.2 hL.2.1 (by decide +kernel) (mX8_looked  τ hL.2.2.2.1 hq2) cv_L_128 zck_1_0 rfl ⟨⟨rfl, rfl⟩, Nat.le_of_ble_eq_true rfl, Nat.le_of_ble_eq_true rfl⟩ (zlv_size hl) rfl (Nat.le_of_ble_eq_true rfl) dL_law_999) (fun H locs hV => ?_)
  refine lv_icmp_eq (tgt := 1335) hx hb dL_law_1002 (by decide) (fun _ => ?_) (fun hc => absurd rfl hc)
  refine lv_iinc (v := nI (i + 6)) (lv' := [(3, .int (nI (i + 6))), (0, .ref b), (1, .ref (adA 0)), (2, .ref (adB 0))]) hx hb dL_law_1335 hl (k := 3) rfl (nI_add i 6) (by decide) rfl (fun ls hl => ?_)
  refine lv_goto (tgt := 18) hx hb dL_law_1338 (by decide) ?_
  exact ih (i + 6) _ σ τ (by omega) (by omega) hR _ _ hV ls (lv_sub hl [1, 2, 3, 0] rfl) rfl

set_option maxHeartbeats 4000000 in
set_option maxRecDepth 100000 in
theorem lw_case_27 {p : Program} {l : Launch} {e : Env} {s : State} {m : MethodId} {below : List Frame} {meth : Method} {c : Code} {b L : Nat} {xs : Nat → Int32} {D : va_G} {cI cJ : ClassId} {adA adB : Nat → Nat} (hC : zLx p s m c #[Value.ref b] D cI cJ) (hL : zLa s adA adB) (hX : va_X b L xs s s.heap) (hbl : b < s.heap.size) (hLL : L ≤ 3072) {n : Nat}
    (ih : ∀ (i : Nat) (x3 : Int32) (σ τ : zkS), i ≤ L → L + 1 ≤ i + n → zRel σ τ → ∀ (H : Heap) (locs : List Loc), zLo D cI cJ adA adB s σ τ H locs → ∀ (ls : Array Slot), lv_has ls 4 [(0, .ref b), (1, .ref (adA 0)), (2, .ref (adB 0)), (3, .int x3)] → x3 = nI i → W p l e room_1 s m #[Value.ref b] below meth c H locs 68 4074 (lw_Z below #[Value.ref b] s) (F0 m 18 ls [])) {i : Nat} {σ τ : zkS} (hi6 : i + 6 ≤ L) (hin : L + 1 ≤ i + (n + 1)) (hR : zRel σ τ) {a1 a2 a3 a4 a5 : Int32} (e1 : xs ((nI i) + 1).toNatClampNeg = a1) (e2 : xs ((nI i) + 2).toNatClampNeg = a2) (e3 : xs ((nI i) + 3).toNatClampNeg = a3) (e4 : xs ((nI i) + 4).toNatClampNeg = a4) (e5 : xs ((nI i) + 5).toNatClampNeg = a5)
    {H : Heap} {locs : List Loc} (hV : zLo D cI cJ adA adB s σ τ H locs) {ls : Array Slot} (hl : lv_has ls 4 [(0, .ref b), (1, .ref (adA 0)), (2, .ref (adB 0)), (3, .int (nI i))]) : W p l e room_1 s m #[Value.ref b] below meth c H locs 68 4074 (lw_Z below #[Value.ref b] s) (F0 m 1007 ls []) := by
  have hx := hC.1
  have hb := hC.2.1
  have h1 : vp_in ((nI i) + 1) L := zl_in (k := 1) hi6 hLL (by decide)
  have h2 : vp_in ((nI i) + 2) L := zl_in (k := 2) hi6 hLL (by decide)
  have h3 : vp_in ((nI i) + 3) L := zl_in (k := 3) hi6 hLL (by decide)
  have h4 : vp_in ((nI i) + 4) L := zl_in (k := 4) hi6 hLL (by decide)
  have h5 : vp_in ((nI i) + 5) L := zl_in (k := 5) hi6 hLL (by decide)
  refine lv_aload_n hx hb dL_law_1007 rfl (lv_at hl 1 rfl) ?_
  refine lv_aload_n hx hb dL_law_1008 rfl (lv_at hl 0 rfl) ?_
  refine lv_iload_n hx hb dL_law_1009 rfl (lv_at hl 3 rfl) ?_
  refine lv_iconst (v := 1) hx hb dL_law_1010 (by decide) ?_
  refine lv_iadd hx hb dL_law_1011 ?_
  refine zl_ld hC hX hbl hV h1 e1 dL_law_1012 ?_
  refine lv_aload_n hx hb dL_law_1013 rfl (lv_at hl 0 rfl) ?_
  refine lv_iload_n hx hb dL_law_1014 rfl (lv_at hl 3 rfl) ?_
  refine lv_iconst (v := 2) hx hb dL_law_1015 (by decide) ?_
  refine lv_iadd hx hb dL_law_1016 ?_
  refine zl_ld hC hX hbl hV h2 e2 dL_law_1017 ?_
  obtain ⟨r, hq1, hq2, hR⟩ := T_judge hR a1 a2
  refine zl_ai hL hV (zl_run (u := 0) (As := [.int a1, .int a2]) (rest := []) hC hV.1 hV.2.2 hL.1 (by decide +kernel) (mX7_judge a1 a2 σ hL.2.2.1 hq1) cv_L_129 zck_0_0 rfl ⟨⟨rfl, rfl⟩, Nat.le_of_ble_eq_true rfl, Nat.le_of_ble_eq_true rfl⟩ (zlv_size hl) rfl (Nat.le_of_ble_eq_true rfl) dL_law_1018) (fun H locs hV => ?_)
  refine lv_aload_n hx hb dL_law_1021 rfl (lv_at hl 2 rfl) ?_
  refine lv_aload_n hx hb dL_law_1022 rfl (lv_at hl 0 rfl) ?_
  refine lv_iload_n hx hb dL_law_1023 rfl (lv_at hl 3 rfl) ?_
  refine lv_iconst (v := 1) hx hb dL_law_1024 (by decide) ?_
  refine lv_iadd hx hb dL_law_1025 ?_
  refine zl_ld hC hX hbl hV h1 e1 dL_law_1026 ?_
  refine lv_aload_n hx hb dL_law_1027 rfl (lv_at hl 0 rfl) ?_
  refine lv_iload_n hx hb dL_law_1028 rfl (lv_at hl 3 rfl) ?_
  refine lv_iconst (v := 2) hx hb dL_law_1029 (by decide) ?_
  refine lv_iadd hx hb dL_law_1030 ?_
  refine zl_ld hC hX hbl hV h2 e2 dL_law_1031 ?_
  refine zl_bi hL hV (zl_run (u := 1) (As := [.int a1, .int a2]) (rest := [.int r]) hC hV.2.1 hV.2.2 hL.2.1 (by decide +kernel) (mX8_judge a1 a2 τ hL.2.2.2.1 hq2) cv_L_132 zck_1_0 rfl ⟨⟨rfl, rfl⟩, Nat.le_of_ble_eq_true rfl, Nat.le_of_ble_eq_true rfl⟩ (zlv_size hl) rfl (Nat.le_of_ble_eq_true rfl) dL_law_1032) (fun H locs hV => ?_)
  refine lv_icmp_eq (tgt := 1335) hx hb dL_law_1035 (by decide) (fun _ => ?_) (fun hc => absurd rfl hc)
  refine lv_iinc (v := nI (i + 6)) (lv' := [(3, .int (nI (i + 6))), (0, .ref b), (1, .ref (adA 0)), (2, .ref (adB 0))]) hx hb dL_law_1335 hl (k := 3) rfl (nI_add i 6) (by decide) rfl (fun ls hl => ?_)
  refine lv_goto (tgt := 18) hx hb dL_law_1338 (by decide) ?_
  exact ih (i + 6) _ σ τ (by omega) (by omega) hR _ _ hV ls (lv_sub hl [1, 2, 3, 0] rfl) rfl

set_option maxHeartbeats 4000000 in
set_option maxRecDepth 100000 in
theorem lw_case_28 {p : Program} {l : Launch} {e : Env} {s : State} {m : MethodId} {below : List Frame} {meth : Method} {c : Code} {b L : Nat} {xs : Nat → Int32} {D : va_G} {cI cJ : ClassId} {adA adB : Nat → Nat} (hC : zLx p s m c #[Value.ref b] D cI cJ) (hL : zLa s adA adB) (hX : va_X b L xs s s.heap) (hbl : b < s.heap.size) (hLL : L ≤ 3072) {n : Nat}
    (ih : ∀ (i : Nat) (x3 : Int32) (σ τ : zkS), i ≤ L → L + 1 ≤ i + n → zRel σ τ → ∀ (H : Heap) (locs : List Loc), zLo D cI cJ adA adB s σ τ H locs → ∀ (ls : Array Slot), lv_has ls 4 [(0, .ref b), (1, .ref (adA 0)), (2, .ref (adB 0)), (3, .int x3)] → x3 = nI i → W p l e room_1 s m #[Value.ref b] below meth c H locs 68 4074 (lw_Z below #[Value.ref b] s) (F0 m 18 ls [])) {i : Nat} {σ τ : zkS} (hi6 : i + 6 ≤ L) (hin : L + 1 ≤ i + (n + 1)) (hR : zRel σ τ) {a1 a2 a3 a4 a5 : Int32} (e1 : xs ((nI i) + 1).toNatClampNeg = a1) (e2 : xs ((nI i) + 2).toNatClampNeg = a2) (e3 : xs ((nI i) + 3).toNatClampNeg = a3) (e4 : xs ((nI i) + 4).toNatClampNeg = a4) (e5 : xs ((nI i) + 5).toNatClampNeg = a5)
    {H : Heap} {locs : List Loc} (hV : zLo D cI cJ adA adB s σ τ H locs) {ls : Array Slot} (hl : lv_has ls 4 [(0, .ref b), (1, .ref (adA 0)), (2, .ref (adB 0)), (3, .int (nI i))]) : W p l e room_1 s m #[Value.ref b] below meth c H locs 68 4074 (lw_Z below #[Value.ref b] s) (F0 m 1040 ls []) := by
  have hx := hC.1
  have hb := hC.2.1
  have h1 : vp_in ((nI i) + 1) L := zl_in (k := 1) hi6 hLL (by decide)
  have h2 : vp_in ((nI i) + 2) L := zl_in (k := 2) hi6 hLL (by decide)
  have h3 : vp_in ((nI i) + 3) L := zl_in (k := 3) hi6 hLL (by decide)
  have h4 : vp_in ((nI i) + 4) L := zl_in (k := 4) hi6 hLL (by decide)
  have h5 : vp_in ((nI i) + 5) L := zl_in (k := 5) hi6 hLL (by decide)
  refine lv_aload_n hx hb dL_law_1040 rfl (lv_at hl 1 rfl) ?_
  obtain ⟨r, σ1, τ1, hq1, hq2, hR⟩ := T_image hR
  refine zl_ai hL hV (zl_run (u := 0) (As := []) (rest := []) hC hV.1 hV.2.2 hL.1 (by decide +kernel) (mX7_image  σ hL.2.2.1 hq1) cv_L_133 zck_0_0 rfl ⟨⟨rfl, rfl⟩, Nat.le_of_ble_eq_true rfl, Nat.le_of_ble_eq_true rfl⟩ (zlv_size hl) rfl (Nat.le_of_ble_eq_true rfl) dL_law_1041) (fun H locs hV => ?_)
  refine lv_aload_n hx hb dL_law_1044 rfl (lv_at hl 2 rfl) ?_
  refine zl_bi hL hV (zl_run (u := 1) (As := []) (rest := [.int r]) hC hV.2.1 hV.2.2 hL.2.1 (by decide +kernel) (mX8_image  τ hL.2.2.2.1 hq2) cv_L_136 zck_1_0 rfl ⟨⟨rfl, rfl⟩, Nat.le_of_ble_eq_true rfl, Nat.le_of_ble_eq_true rfl⟩ (zlv_size hl) rfl (Nat.le_of_ble_eq_true rfl) dL_law_1045) (fun H locs hV => ?_)
  refine lv_icmp_eq (tgt := 1335) hx hb dL_law_1048 (by decide) (fun _ => ?_) (fun hc => absurd rfl hc)
  refine lv_iinc (v := nI (i + 6)) (lv' := [(3, .int (nI (i + 6))), (0, .ref b), (1, .ref (adA 0)), (2, .ref (adB 0))]) hx hb dL_law_1335 hl (k := 3) rfl (nI_add i 6) (by decide) rfl (fun ls hl => ?_)
  refine lv_goto (tgt := 18) hx hb dL_law_1338 (by decide) ?_
  exact ih (i + 6) _ σ1 τ1 (by omega) (by omega) hR _ _ hV ls (lv_sub hl [1, 2, 3, 0] rfl) rfl

set_option maxHeartbeats 4000000 in
set_option maxRecDepth 100000 in
theorem lw_case_29 {p : Program} {l : Launch} {e : Env} {s : State} {m : MethodId} {below : List Frame} {meth : Method} {c : Code} {b L : Nat} {xs : Nat → Int32} {D : va_G} {cI cJ : ClassId} {adA adB : Nat → Nat} (hC : zLx p s m c #[Value.ref b] D cI cJ) (hL : zLa s adA adB) (hX : va_X b L xs s s.heap) (hbl : b < s.heap.size) (hLL : L ≤ 3072) {n : Nat}
    (ih : ∀ (i : Nat) (x3 : Int32) (σ τ : zkS), i ≤ L → L + 1 ≤ i + n → zRel σ τ → ∀ (H : Heap) (locs : List Loc), zLo D cI cJ adA adB s σ τ H locs → ∀ (ls : Array Slot), lv_has ls 4 [(0, .ref b), (1, .ref (adA 0)), (2, .ref (adB 0)), (3, .int x3)] → x3 = nI i → W p l e room_1 s m #[Value.ref b] below meth c H locs 68 4074 (lw_Z below #[Value.ref b] s) (F0 m 18 ls [])) {i : Nat} {σ τ : zkS} (hi6 : i + 6 ≤ L) (hin : L + 1 ≤ i + (n + 1)) (hR : zRel σ τ) {a1 a2 a3 a4 a5 : Int32} (e1 : xs ((nI i) + 1).toNatClampNeg = a1) (e2 : xs ((nI i) + 2).toNatClampNeg = a2) (e3 : xs ((nI i) + 3).toNatClampNeg = a3) (e4 : xs ((nI i) + 4).toNatClampNeg = a4) (e5 : xs ((nI i) + 5).toNatClampNeg = a5)
    {H : Heap} {locs : List Loc} (hV : zLo D cI cJ adA adB s σ τ H locs) {ls : Array Slot} (hl : lv_has ls 4 [(0, .ref b), (1, .ref (adA 0)), (2, .ref (adB 0)), (3, .int (nI i))]) : W p l e room_1 s m #[Value.ref b] below meth c H locs 68 4074 (lw_Z below #[Value.ref b] s) (F0 m 1053 ls []) := by
  have hx := hC.1
  have hb := hC.2.1
  have h1 : vp_in ((nI i) + 1) L := zl_in (k := 1) hi6 hLL (by decide)
  have h2 : vp_in ((nI i) + 2) L := zl_in (k := 2) hi6 hLL (by decide)
  have h3 : vp_in ((nI i) + 3) L := zl_in (k := 3) hi6 hLL (by decide)
  have h4 : vp_in ((nI i) + 4) L := zl_in (k := 4) hi6 hLL (by decide)
  have h5 : vp_in ((nI i) + 5) L := zl_in (k := 5) hi6 hLL (by decide)
  refine lv_aload_n hx hb dL_law_1053 rfl (lv_at hl 1 rfl) ?_
  obtain ⟨r, σ1, τ1, hq1, hq2, hR⟩ := T_undo hR
  refine zl_ai hL hV (zl_run (u := 0) (As := []) (rest := []) hC hV.1 hV.2.2 hL.1 (by decide +kernel) (mX7_undo  σ hL.2.2.1 hq1) cv_L_137 zck_0_0 rfl ⟨⟨rfl, rfl⟩, Nat.le_of_ble_eq_true rfl, Nat.le_of_ble_eq_true rfl⟩ (zlv_size hl) rfl (Nat.le_of_ble_eq_true rfl) dL_law_1054) (fun H locs hV => ?_)
  refine lv_aload_n hx hb dL_law_1057 rfl (lv_at hl 2 rfl) ?_
  refine zl_bi hL hV (zl_run (u := 1) (As := []) (rest := [.int r]) hC hV.2.1 hV.2.2 hL.2.1 (by decide +kernel) (mX8_undo  τ hL.2.2.2.1 hq2) cv_L_140 zck_1_0 rfl ⟨⟨rfl, rfl⟩, Nat.le_of_ble_eq_true rfl, Nat.le_of_ble_eq_true rfl⟩ (zlv_size hl) rfl (Nat.le_of_ble_eq_true rfl) dL_law_1058) (fun H locs hV => ?_)
  refine lv_icmp_eq (tgt := 1335) hx hb dL_law_1061 (by decide) (fun _ => ?_) (fun hc => absurd rfl hc)
  refine lv_iinc (v := nI (i + 6)) (lv' := [(3, .int (nI (i + 6))), (0, .ref b), (1, .ref (adA 0)), (2, .ref (adB 0))]) hx hb dL_law_1335 hl (k := 3) rfl (nI_add i 6) (by decide) rfl (fun ls hl => ?_)
  refine lv_goto (tgt := 18) hx hb dL_law_1338 (by decide) ?_
  exact ih (i + 6) _ σ1 τ1 (by omega) (by omega) hR _ _ hV ls (lv_sub hl [1, 2, 3, 0] rfl) rfl

set_option maxHeartbeats 4000000 in
set_option maxRecDepth 100000 in
theorem lw_case_30 {p : Program} {l : Launch} {e : Env} {s : State} {m : MethodId} {below : List Frame} {meth : Method} {c : Code} {b L : Nat} {xs : Nat → Int32} {D : va_G} {cI cJ : ClassId} {adA adB : Nat → Nat} (hC : zLx p s m c #[Value.ref b] D cI cJ) (hL : zLa s adA adB) (hX : va_X b L xs s s.heap) (hbl : b < s.heap.size) (hLL : L ≤ 3072) {n : Nat}
    (ih : ∀ (i : Nat) (x3 : Int32) (σ τ : zkS), i ≤ L → L + 1 ≤ i + n → zRel σ τ → ∀ (H : Heap) (locs : List Loc), zLo D cI cJ adA adB s σ τ H locs → ∀ (ls : Array Slot), lv_has ls 4 [(0, .ref b), (1, .ref (adA 0)), (2, .ref (adB 0)), (3, .int x3)] → x3 = nI i → W p l e room_1 s m #[Value.ref b] below meth c H locs 68 4074 (lw_Z below #[Value.ref b] s) (F0 m 18 ls [])) {i : Nat} {σ τ : zkS} (hi6 : i + 6 ≤ L) (hin : L + 1 ≤ i + (n + 1)) (hR : zRel σ τ) {a1 a2 a3 a4 a5 : Int32} (e1 : xs ((nI i) + 1).toNatClampNeg = a1) (e2 : xs ((nI i) + 2).toNatClampNeg = a2) (e3 : xs ((nI i) + 3).toNatClampNeg = a3) (e4 : xs ((nI i) + 4).toNatClampNeg = a4) (e5 : xs ((nI i) + 5).toNatClampNeg = a5)
    {H : Heap} {locs : List Loc} (hV : zLo D cI cJ adA adB s σ τ H locs) {ls : Array Slot} (hl : lv_has ls 4 [(0, .ref b), (1, .ref (adA 0)), (2, .ref (adB 0)), (3, .int (nI i))]) : W p l e room_1 s m #[Value.ref b] below meth c H locs 68 4074 (lw_Z below #[Value.ref b] s) (F0 m 1066 ls []) := by
  have hx := hC.1
  have hb := hC.2.1
  have h1 : vp_in ((nI i) + 1) L := zl_in (k := 1) hi6 hLL (by decide)
  have h2 : vp_in ((nI i) + 2) L := zl_in (k := 2) hi6 hLL (by decide)
  have h3 : vp_in ((nI i) + 3) L := zl_in (k := 3) hi6 hLL (by decide)
  have h4 : vp_in ((nI i) + 4) L := zl_in (k := 4) hi6 hLL (by decide)
  have h5 : vp_in ((nI i) + 5) L := zl_in (k := 5) hi6 hLL (by decide)
  refine lv_aload_n hx hb dL_law_1066 rfl (lv_at hl 1 rfl) ?_
  refine lv_aload_n hx hb dL_law_1067 rfl (lv_at hl 0 rfl) ?_
  refine lv_iload_n hx hb dL_law_1068 rfl (lv_at hl 3 rfl) ?_
  refine lv_iconst (v := 1) hx hb dL_law_1069 (by decide) ?_
  refine lv_iadd hx hb dL_law_1070 ?_
  refine zl_ld hC hX hbl hV h1 e1 dL_law_1071 ?_
  refine lv_aload_n hx hb dL_law_1072 rfl (lv_at hl 0 rfl) ?_
  refine lv_iload_n hx hb dL_law_1073 rfl (lv_at hl 3 rfl) ?_
  refine lv_iconst (v := 2) hx hb dL_law_1074 (by decide) ?_
  refine lv_iadd hx hb dL_law_1075 ?_
  refine zl_ld hC hX hbl hV h2 e2 dL_law_1076 ?_
  obtain ⟨r, hq1, hq2, hR⟩ := T_taken hR a1 a2
  refine zl_ai hL hV (zl_run (u := 0) (As := [.int a1, .int a2]) (rest := []) hC hV.1 hV.2.2 hL.1 (by decide +kernel) (mX7_taken a1 a2 σ hL.2.2.1 hq1) cv_L_141 zck_0_0 rfl ⟨⟨rfl, rfl⟩, Nat.le_of_ble_eq_true rfl, Nat.le_of_ble_eq_true rfl⟩ (zlv_size hl) rfl (Nat.le_of_ble_eq_true rfl) dL_law_1077) (fun H locs hV => ?_)
  refine lv_aload_n hx hb dL_law_1080 rfl (lv_at hl 2 rfl) ?_
  refine lv_aload_n hx hb dL_law_1081 rfl (lv_at hl 0 rfl) ?_
  refine lv_iload_n hx hb dL_law_1082 rfl (lv_at hl 3 rfl) ?_
  refine lv_iconst (v := 1) hx hb dL_law_1083 (by decide) ?_
  refine lv_iadd hx hb dL_law_1084 ?_
  refine zl_ld hC hX hbl hV h1 e1 dL_law_1085 ?_
  refine lv_aload_n hx hb dL_law_1086 rfl (lv_at hl 0 rfl) ?_
  refine lv_iload_n hx hb dL_law_1087 rfl (lv_at hl 3 rfl) ?_
  refine lv_iconst (v := 2) hx hb dL_law_1088 (by decide) ?_
  refine lv_iadd hx hb dL_law_1089 ?_
  refine zl_ld hC hX hbl hV h2 e2 dL_law_1090 ?_
  refine zl_bi hL hV (zl_run (u := 1) (As := [.int a1, .int a2]) (rest := [.int r]) hC hV.2.1 hV.2.2 hL.2.1 (by decide +kernel) (mX8_taken a1 a2 τ hL.2.2.2.1 hq2) cv_L_144 zck_1_0 rfl ⟨⟨rfl, rfl⟩, Nat.le_of_ble_eq_true rfl, Nat.le_of_ble_eq_true rfl⟩ (zlv_size hl) rfl (Nat.le_of_ble_eq_true rfl) dL_law_1091) (fun H locs hV => ?_)
  refine lv_icmp_eq (tgt := 1335) hx hb dL_law_1094 (by decide) (fun _ => ?_) (fun hc => absurd rfl hc)
  refine lv_iinc (v := nI (i + 6)) (lv' := [(3, .int (nI (i + 6))), (0, .ref b), (1, .ref (adA 0)), (2, .ref (adB 0))]) hx hb dL_law_1335 hl (k := 3) rfl (nI_add i 6) (by decide) rfl (fun ls hl => ?_)
  refine lv_goto (tgt := 18) hx hb dL_law_1338 (by decide) ?_
  exact ih (i + 6) _ σ τ (by omega) (by omega) hR _ _ hV ls (lv_sub hl [1, 2, 3, 0] rfl) rfl

set_option maxHeartbeats 4000000 in
set_option maxRecDepth 100000 in
theorem lw_case_31 {p : Program} {l : Launch} {e : Env} {s : State} {m : MethodId} {below : List Frame} {meth : Method} {c : Code} {b L : Nat} {xs : Nat → Int32} {D : va_G} {cI cJ : ClassId} {adA adB : Nat → Nat} (hC : zLx p s m c #[Value.ref b] D cI cJ) (hL : zLa s adA adB) (hX : va_X b L xs s s.heap) (hbl : b < s.heap.size) (hLL : L ≤ 3072) {n : Nat}
    (ih : ∀ (i : Nat) (x3 : Int32) (σ τ : zkS), i ≤ L → L + 1 ≤ i + n → zRel σ τ → ∀ (H : Heap) (locs : List Loc), zLo D cI cJ adA adB s σ τ H locs → ∀ (ls : Array Slot), lv_has ls 4 [(0, .ref b), (1, .ref (adA 0)), (2, .ref (adB 0)), (3, .int x3)] → x3 = nI i → W p l e room_1 s m #[Value.ref b] below meth c H locs 68 4074 (lw_Z below #[Value.ref b] s) (F0 m 18 ls [])) {i : Nat} {σ τ : zkS} (hi6 : i + 6 ≤ L) (hin : L + 1 ≤ i + (n + 1)) (hR : zRel σ τ) {a1 a2 a3 a4 a5 : Int32} (e1 : xs ((nI i) + 1).toNatClampNeg = a1) (e2 : xs ((nI i) + 2).toNatClampNeg = a2) (e3 : xs ((nI i) + 3).toNatClampNeg = a3) (e4 : xs ((nI i) + 4).toNatClampNeg = a4) (e5 : xs ((nI i) + 5).toNatClampNeg = a5)
    {H : Heap} {locs : List Loc} (hV : zLo D cI cJ adA adB s σ τ H locs) {ls : Array Slot} (hl : lv_has ls 4 [(0, .ref b), (1, .ref (adA 0)), (2, .ref (adB 0)), (3, .int (nI i))]) : W p l e room_1 s m #[Value.ref b] below meth c H locs 68 4074 (lw_Z below #[Value.ref b] s) (F0 m 1099 ls []) := by
  have hx := hC.1
  have hb := hC.2.1
  have h1 : vp_in ((nI i) + 1) L := zl_in (k := 1) hi6 hLL (by decide)
  have h2 : vp_in ((nI i) + 2) L := zl_in (k := 2) hi6 hLL (by decide)
  have h3 : vp_in ((nI i) + 3) L := zl_in (k := 3) hi6 hLL (by decide)
  have h4 : vp_in ((nI i) + 4) L := zl_in (k := 4) hi6 hLL (by decide)
  have h5 : vp_in ((nI i) + 5) L := zl_in (k := 5) hi6 hLL (by decide)
  refine lv_aload_n hx hb dL_law_1099 rfl (lv_at hl 1 rfl) ?_
  refine lv_aload_n hx hb dL_law_1100 rfl (lv_at hl 0 rfl) ?_
  refine lv_iload_n hx hb dL_law_1101 rfl (lv_at hl 3 rfl) ?_
  refine lv_iconst (v := 1) hx hb dL_law_1102 (by decide) ?_
  refine lv_iadd hx hb dL_law_1103 ?_
  refine zl_ld hC hX hbl hV h1 e1 dL_law_1104 ?_
  obtain ⟨r, hq1, hq2, hR⟩ := T_count hR a1
  refine zl_ai hL hV (zl_run (u := 0) (As := [.int a1]) (rest := []) hC hV.1 hV.2.2 hL.1 (by decide +kernel) (mX7_count a1 σ hL.2.2.1 hq1) cv_L_145 zck_0_0 rfl ⟨⟨rfl, rfl⟩, Nat.le_of_ble_eq_true rfl, Nat.le_of_ble_eq_true rfl⟩ (zlv_size hl) rfl (Nat.le_of_ble_eq_true rfl) dL_law_1105) (fun H locs hV => ?_)
  refine lv_aload_n hx hb dL_law_1108 rfl (lv_at hl 2 rfl) ?_
  refine lv_aload_n hx hb dL_law_1109 rfl (lv_at hl 0 rfl) ?_
  refine lv_iload_n hx hb dL_law_1110 rfl (lv_at hl 3 rfl) ?_
  refine lv_iconst (v := 1) hx hb dL_law_1111 (by decide) ?_
  refine lv_iadd hx hb dL_law_1112 ?_
  refine zl_ld hC hX hbl hV h1 e1 dL_law_1113 ?_
  refine zl_bi hL hV (zl_run (u := 1) (As := [.int a1]) (rest := [.int r]) hC hV.2.1 hV.2.2 hL.2.1 (by decide +kernel) (mX8_count a1 τ hL.2.2.2.1 hq2) cv_L_148 zck_1_0 rfl ⟨⟨rfl, rfl⟩, Nat.le_of_ble_eq_true rfl, Nat.le_of_ble_eq_true rfl⟩ (zlv_size hl) rfl (Nat.le_of_ble_eq_true rfl) dL_law_1114) (fun H locs hV => ?_)
  refine lv_icmp_eq (tgt := 1335) hx hb dL_law_1117 (by decide) (fun _ => ?_) (fun hc => absurd rfl hc)
  refine lv_iinc (v := nI (i + 6)) (lv' := [(3, .int (nI (i + 6))), (0, .ref b), (1, .ref (adA 0)), (2, .ref (adB 0))]) hx hb dL_law_1335 hl (k := 3) rfl (nI_add i 6) (by decide) rfl (fun ls hl => ?_)
  refine lv_goto (tgt := 18) hx hb dL_law_1338 (by decide) ?_
  exact ih (i + 6) _ σ τ (by omega) (by omega) hR _ _ hV ls (lv_sub hl [1, 2, 3, 0] rfl) rfl

set_option maxHeartbeats 4000000 in
set_option maxRecDepth 100000 in
theorem lw_case_32 {p : Program} {l : Launch} {e : Env} {s : State} {m : MethodId} {below : List Frame} {meth : Method} {c : Code} {b L : Nat} {xs : Nat → Int32} {D : va_G} {cI cJ : ClassId} {adA adB : Nat → Nat} (hC : zLx p s m c #[Value.ref b] D cI cJ) (hL : zLa s adA adB) (hX : va_X b L xs s s.heap) (hbl : b < s.heap.size) (hLL : L ≤ 3072) {n : Nat}
    (ih : ∀ (i : Nat) (x3 : Int32) (σ τ : zkS), i ≤ L → L + 1 ≤ i + n → zRel σ τ → ∀ (H : Heap) (locs : List Loc), zLo D cI cJ adA adB s σ τ H locs → ∀ (ls : Array Slot), lv_has ls 4 [(0, .ref b), (1, .ref (adA 0)), (2, .ref (adB 0)), (3, .int x3)] → x3 = nI i → W p l e room_1 s m #[Value.ref b] below meth c H locs 68 4074 (lw_Z below #[Value.ref b] s) (F0 m 18 ls [])) {i : Nat} {σ τ : zkS} (hi6 : i + 6 ≤ L) (hin : L + 1 ≤ i + (n + 1)) (hR : zRel σ τ) {a1 a2 a3 a4 a5 : Int32} (e1 : xs ((nI i) + 1).toNatClampNeg = a1) (e2 : xs ((nI i) + 2).toNatClampNeg = a2) (e3 : xs ((nI i) + 3).toNatClampNeg = a3) (e4 : xs ((nI i) + 4).toNatClampNeg = a4) (e5 : xs ((nI i) + 5).toNatClampNeg = a5)
    {H : Heap} {locs : List Loc} (hV : zLo D cI cJ adA adB s σ τ H locs) {ls : Array Slot} (hl : lv_has ls 4 [(0, .ref b), (1, .ref (adA 0)), (2, .ref (adB 0)), (3, .int (nI i))]) : W p l e room_1 s m #[Value.ref b] below meth c H locs 68 4074 (lw_Z below #[Value.ref b] s) (F0 m 1122 ls []) := by
  have hx := hC.1
  have hb := hC.2.1
  have h1 : vp_in ((nI i) + 1) L := zl_in (k := 1) hi6 hLL (by decide)
  have h2 : vp_in ((nI i) + 2) L := zl_in (k := 2) hi6 hLL (by decide)
  have h3 : vp_in ((nI i) + 3) L := zl_in (k := 3) hi6 hLL (by decide)
  have h4 : vp_in ((nI i) + 4) L := zl_in (k := 4) hi6 hLL (by decide)
  have h5 : vp_in ((nI i) + 5) L := zl_in (k := 5) hi6 hLL (by decide)
  refine lv_aload_n hx hb dL_law_1122 rfl (lv_at hl 1 rfl) ?_
  refine lv_aload_n hx hb dL_law_1123 rfl (lv_at hl 0 rfl) ?_
  refine lv_iload_n hx hb dL_law_1124 rfl (lv_at hl 3 rfl) ?_
  refine lv_iconst (v := 1) hx hb dL_law_1125 (by decide) ?_
  refine lv_iadd hx hb dL_law_1126 ?_
  refine zl_ld hC hX hbl hV h1 e1 dL_law_1127 ?_
  refine lv_aload_n hx hb dL_law_1128 rfl (lv_at hl 0 rfl) ?_
  refine lv_iload_n hx hb dL_law_1129 rfl (lv_at hl 3 rfl) ?_
  refine lv_iconst (v := 2) hx hb dL_law_1130 (by decide) ?_
  refine lv_iadd hx hb dL_law_1131 ?_
  refine zl_ld hC hX hbl hV h2 e2 dL_law_1132 ?_
  refine lv_aload_n hx hb dL_law_1133 rfl (lv_at hl 0 rfl) ?_
  refine lv_iload_n hx hb dL_law_1134 rfl (lv_at hl 3 rfl) ?_
  refine lv_iconst (v := 3) hx hb dL_law_1135 (by decide) ?_
  refine lv_iadd hx hb dL_law_1136 ?_
  refine zl_ld hC hX hbl hV h3 e3 dL_law_1137 ?_
  obtain ⟨r, σ1, τ1, hq1, hq2, hR⟩ := T_tape hR a1 a2 a3
  refine zl_ai hL hV (zl_run (u := 0) (As := [.int a1, .int a2, .int a3]) (rest := []) hC hV.1 hV.2.2 hL.1 (by decide +kernel) (mX7_tape a1 a2 a3 σ hL.2.2.1 hq1) cv_L_149 zck_0_0 rfl ⟨⟨rfl, rfl⟩, Nat.le_of_ble_eq_true rfl, Nat.le_of_ble_eq_true rfl⟩ (zlv_size hl) rfl (Nat.le_of_ble_eq_true rfl) dL_law_1138) (fun H locs hV => ?_)
  refine lv_aload_n hx hb dL_law_1141 rfl (lv_at hl 2 rfl) ?_
  refine lv_aload_n hx hb dL_law_1142 rfl (lv_at hl 0 rfl) ?_
  refine lv_iload_n hx hb dL_law_1143 rfl (lv_at hl 3 rfl) ?_
  refine lv_iconst (v := 1) hx hb dL_law_1144 (by decide) ?_
  refine lv_iadd hx hb dL_law_1145 ?_
  refine zl_ld hC hX hbl hV h1 e1 dL_law_1146 ?_
  refine lv_aload_n hx hb dL_law_1147 rfl (lv_at hl 0 rfl) ?_
  refine lv_iload_n hx hb dL_law_1148 rfl (lv_at hl 3 rfl) ?_
  refine lv_iconst (v := 2) hx hb dL_law_1149 (by decide) ?_
  refine lv_iadd hx hb dL_law_1150 ?_
  refine zl_ld hC hX hbl hV h2 e2 dL_law_1151 ?_
  refine lv_aload_n hx hb dL_law_1152 rfl (lv_at hl 0 rfl) ?_
  refine lv_iload_n hx hb dL_law_1153 rfl (lv_at hl 3 rfl) ?_
  refine lv_iconst (v := 3) hx hb dL_law_1154 (by decide) ?_
  refine lv_iadd hx hb dL_law_1155 ?_
  refine zl_ld hC hX hbl hV h3 e3 dL_law_1156 ?_
  refine zl_bi hL hV (zl_run (u := 1) (As := [.int a1, .int a2, .int a3]) (rest := [.int r]) hC hV.2.1 hV.2.2 hL.2.1 (by decide +kernel) (mX8_tape a1 a2 a3 τ hL.2.2.2.1 hq2) cv_L_152 zck_1_0 rfl ⟨⟨rfl, rfl⟩, Nat.le_of_ble_eq_true rfl, Nat.le_of_ble_eq_true rfl⟩ (zlv_size hl) rfl (Nat.le_of_ble_eq_true rfl) dL_law_1157) (fun H locs hV => ?_)
  refine lv_icmp_eq (tgt := 1335) hx hb dL_law_1160 (by decide) (fun _ => ?_) (fun hc => absurd rfl hc)
  refine lv_iinc (v := nI (i + 6)) (lv' := [(3, .int (nI (i + 6))), (0, .ref b), (1, .ref (adA 0)), (2, .ref (adB 0))]) hx hb dL_law_1335 hl (k := 3) rfl (nI_add i 6) (by decide) rfl (fun ls hl => ?_)
  refine lv_goto (tgt := 18) hx hb dL_law_1338 (by decide) ?_
  exact ih (i + 6) _ σ1 τ1 (by omega) (by omega) hR _ _ hV ls (lv_sub hl [1, 2, 3, 0] rfl) rfl

set_option maxHeartbeats 4000000 in
set_option maxRecDepth 100000 in
theorem lw_case_33 {p : Program} {l : Launch} {e : Env} {s : State} {m : MethodId} {below : List Frame} {meth : Method} {c : Code} {b L : Nat} {xs : Nat → Int32} {D : va_G} {cI cJ : ClassId} {adA adB : Nat → Nat} (hC : zLx p s m c #[Value.ref b] D cI cJ) (hL : zLa s adA adB) (hX : va_X b L xs s s.heap) (hbl : b < s.heap.size) (hLL : L ≤ 3072) {n : Nat}
    (ih : ∀ (i : Nat) (x3 : Int32) (σ τ : zkS), i ≤ L → L + 1 ≤ i + n → zRel σ τ → ∀ (H : Heap) (locs : List Loc), zLo D cI cJ adA adB s σ τ H locs → ∀ (ls : Array Slot), lv_has ls 4 [(0, .ref b), (1, .ref (adA 0)), (2, .ref (adB 0)), (3, .int x3)] → x3 = nI i → W p l e room_1 s m #[Value.ref b] below meth c H locs 68 4074 (lw_Z below #[Value.ref b] s) (F0 m 18 ls [])) {i : Nat} {σ τ : zkS} (hi6 : i + 6 ≤ L) (hin : L + 1 ≤ i + (n + 1)) (hR : zRel σ τ) {a1 a2 a3 a4 a5 : Int32} (e1 : xs ((nI i) + 1).toNatClampNeg = a1) (e2 : xs ((nI i) + 2).toNatClampNeg = a2) (e3 : xs ((nI i) + 3).toNatClampNeg = a3) (e4 : xs ((nI i) + 4).toNatClampNeg = a4) (e5 : xs ((nI i) + 5).toNatClampNeg = a5)
    {H : Heap} {locs : List Loc} (hV : zLo D cI cJ adA adB s σ τ H locs) {ls : Array Slot} (hl : lv_has ls 4 [(0, .ref b), (1, .ref (adA 0)), (2, .ref (adB 0)), (3, .int (nI i))]) : W p l e room_1 s m #[Value.ref b] below meth c H locs 68 4074 (lw_Z below #[Value.ref b] s) (F0 m 1165 ls []) := by
  have hx := hC.1
  have hb := hC.2.1
  have h1 : vp_in ((nI i) + 1) L := zl_in (k := 1) hi6 hLL (by decide)
  have h2 : vp_in ((nI i) + 2) L := zl_in (k := 2) hi6 hLL (by decide)
  have h3 : vp_in ((nI i) + 3) L := zl_in (k := 3) hi6 hLL (by decide)
  have h4 : vp_in ((nI i) + 4) L := zl_in (k := 4) hi6 hLL (by decide)
  have h5 : vp_in ((nI i) + 5) L := zl_in (k := 5) hi6 hLL (by decide)
  refine lv_aload_n hx hb dL_law_1165 rfl (lv_at hl 1 rfl) ?_
  refine lv_aload_n hx hb dL_law_1166 rfl (lv_at hl 0 rfl) ?_
  refine lv_iload_n hx hb dL_law_1167 rfl (lv_at hl 3 rfl) ?_
  refine lv_iconst (v := 1) hx hb dL_law_1168 (by decide) ?_
  refine lv_iadd hx hb dL_law_1169 ?_
  refine zl_ld hC hX hbl hV h1 e1 dL_law_1170 ?_
  refine lv_aload_n hx hb dL_law_1171 rfl (lv_at hl 0 rfl) ?_
  refine lv_iload_n hx hb dL_law_1172 rfl (lv_at hl 3 rfl) ?_
  refine lv_iconst (v := 2) hx hb dL_law_1173 (by decide) ?_
  refine lv_iadd hx hb dL_law_1174 ?_
  refine zl_ld hC hX hbl hV h2 e2 dL_law_1175 ?_
  refine lv_aload_n hx hb dL_law_1176 rfl (lv_at hl 0 rfl) ?_
  refine lv_iload_n hx hb dL_law_1177 rfl (lv_at hl 3 rfl) ?_
  refine lv_iconst (v := 3) hx hb dL_law_1178 (by decide) ?_
  refine lv_iadd hx hb dL_law_1179 ?_
  refine zl_ld hC hX hbl hV h3 e3 dL_law_1180 ?_
  refine lv_i2l hx hb dL_law_1181 rfl ?_
  refine lv_bipush (v := 32) hx hb dL_law_1182 (by decide) ?_
  refine lv_lshl hx hb dL_law_1184 rfl ?_
  refine lv_aload_n hx hb dL_law_1185 rfl (lv_at hl 0 rfl) ?_
  refine lv_iload_n hx hb dL_law_1186 rfl (lv_at hl 3 rfl) ?_
  refine lv_iconst (v := 4) hx hb dL_law_1187 (by decide) ?_
  refine lv_iadd hx hb dL_law_1188 ?_
  refine zl_ld hC hX hbl hV h4 e4 dL_law_1189 ?_
  refine lv_i2l hx hb dL_law_1190 rfl ?_
  refine lv_ldc2 hx hb hC.2.2.2.1 (hC.2.2.2.2.1 _ wq_1205) dL_law_1191 ?_
  refine lv_land hx hb dL_law_1194 ?_
  refine lv_lor hx hb dL_law_1195 ?_
  obtain ⟨r, σ1, τ1, hq1, hq2, hR⟩ := T_item hR a1 a2 ((((a3 : Int32).toInt64) <<< ((32 : Int32).toInt64 &&& 63)) ||| (((a4 : Int32).toInt64) &&& 4294967295))
  refine zl_ai hL hV (zl_run (u := 0) (As := [.int a1, .int a2, .long ((((a3 : Int32).toInt64) <<< ((32 : Int32).toInt64 &&& 63)) ||| (((a4 : Int32).toInt64) &&& 4294967295))]) (rest := []) hC hV.1 hV.2.2 hL.1 (by decide +kernel) (mX7_item a1 a2 ((((a3 : Int32).toInt64) <<< ((32 : Int32).toInt64 &&& 63)) ||| (((a4 : Int32).toInt64) &&& 4294967295)) σ hL.2.2.1 hq1) cv_L_155 zck_0_0 rfl ⟨⟨rfl, rfl⟩, Nat.le_of_ble_eq_true rfl, Nat.le_of_ble_eq_true rfl⟩ (zlv_size hl) rfl (Nat.le_of_ble_eq_true rfl) dL_law_1196) (fun H locs hV => ?_)
  refine lv_aload_n hx hb dL_law_1199 rfl (lv_at hl 2 rfl) ?_
  refine lv_aload_n hx hb dL_law_1200 rfl (lv_at hl 0 rfl) ?_
  refine lv_iload_n hx hb dL_law_1201 rfl (lv_at hl 3 rfl) ?_
  refine lv_iconst (v := 1) hx hb dL_law_1202 (by decide) ?_
  refine lv_iadd hx hb dL_law_1203 ?_
  refine zl_ld hC hX hbl hV h1 e1 dL_law_1204 ?_
  refine lv_aload_n hx hb dL_law_1205 rfl (lv_at hl 0 rfl) ?_
  refine lv_iload_n hx hb dL_law_1206 rfl (lv_at hl 3 rfl) ?_
  refine lv_iconst (v := 2) hx hb dL_law_1207 (by decide) ?_
  refine lv_iadd hx hb dL_law_1208 ?_
  refine zl_ld hC hX hbl hV h2 e2 dL_law_1209 ?_
  refine lv_aload_n hx hb dL_law_1210 rfl (lv_at hl 0 rfl) ?_
  refine lv_iload_n hx hb dL_law_1211 rfl (lv_at hl 3 rfl) ?_
  refine lv_iconst (v := 3) hx hb dL_law_1212 (by decide) ?_
  refine lv_iadd hx hb dL_law_1213 ?_
  refine zl_ld hC hX hbl hV h3 e3 dL_law_1214 ?_
  refine lv_i2l hx hb dL_law_1215 rfl ?_
  refine lv_bipush (v := 32) hx hb dL_law_1216 (by decide) ?_
  refine lv_lshl hx hb dL_law_1218 rfl ?_
  refine lv_aload_n hx hb dL_law_1219 rfl (lv_at hl 0 rfl) ?_
  refine lv_iload_n hx hb dL_law_1220 rfl (lv_at hl 3 rfl) ?_
  refine lv_iconst (v := 4) hx hb dL_law_1221 (by decide) ?_
  refine lv_iadd hx hb dL_law_1222 ?_
  refine zl_ld hC hX hbl hV h4 e4 dL_law_1223 ?_
  refine lv_i2l hx hb dL_law_1224 rfl ?_
  refine lv_ldc2 hx hb hC.2.2.2.1 (hC.2.2.2.2.1 _ wq_1205) dL_law_1225 ?_
  refine lv_land hx hb dL_law_1228 ?_
  refine lv_lor hx hb dL_law_1229 ?_
  refine zl_bi hL hV (zl_run (u := 1) (As := [.int a1, .int a2, .long ((((a3 : Int32).toInt64) <<< ((32 : Int32).toInt64 &&& 63)) ||| (((a4 : Int32).toInt64) &&& 4294967295))]) (rest := [.int r]) hC hV.2.1 hV.2.2 hL.2.1 (by decide +kernel) (mX8_item a1 a2 ((((a3 : Int32).toInt64) <<< ((32 : Int32).toInt64 &&& 63)) ||| (((a4 : Int32).toInt64) &&& 4294967295)) τ hL.2.2.2.1 hq2) cv_L_159 zck_1_0 rfl ⟨⟨rfl, rfl⟩, Nat.le_of_ble_eq_true rfl, Nat.le_of_ble_eq_true rfl⟩ (zlv_size hl) rfl (Nat.le_of_ble_eq_true rfl) dL_law_1230) (fun H locs hV => ?_)
  refine lv_icmp_eq (tgt := 1335) hx hb dL_law_1233 (by decide) (fun _ => ?_) (fun hc => absurd rfl hc)
  refine lv_iinc (v := nI (i + 6)) (lv' := [(3, .int (nI (i + 6))), (0, .ref b), (1, .ref (adA 0)), (2, .ref (adB 0))]) hx hb dL_law_1335 hl (k := 3) rfl (nI_add i 6) (by decide) rfl (fun ls hl => ?_)
  refine lv_goto (tgt := 18) hx hb dL_law_1338 (by decide) ?_
  exact ih (i + 6) _ σ1 τ1 (by omega) (by omega) hR _ _ hV ls (lv_sub hl [1, 2, 3, 0] rfl) rfl

set_option maxHeartbeats 4000000 in
set_option maxRecDepth 100000 in
theorem lw_case_34 {p : Program} {l : Launch} {e : Env} {s : State} {m : MethodId} {below : List Frame} {meth : Method} {c : Code} {b L : Nat} {xs : Nat → Int32} {D : va_G} {cI cJ : ClassId} {adA adB : Nat → Nat} (hC : zLx p s m c #[Value.ref b] D cI cJ) (hL : zLa s adA adB) (hX : va_X b L xs s s.heap) (hbl : b < s.heap.size) (hLL : L ≤ 3072) {n : Nat}
    (ih : ∀ (i : Nat) (x3 : Int32) (σ τ : zkS), i ≤ L → L + 1 ≤ i + n → zRel σ τ → ∀ (H : Heap) (locs : List Loc), zLo D cI cJ adA adB s σ τ H locs → ∀ (ls : Array Slot), lv_has ls 4 [(0, .ref b), (1, .ref (adA 0)), (2, .ref (adB 0)), (3, .int x3)] → x3 = nI i → W p l e room_1 s m #[Value.ref b] below meth c H locs 68 4074 (lw_Z below #[Value.ref b] s) (F0 m 18 ls [])) {i : Nat} {σ τ : zkS} (hi6 : i + 6 ≤ L) (hin : L + 1 ≤ i + (n + 1)) (hR : zRel σ τ) {a1 a2 a3 a4 a5 : Int32} (e1 : xs ((nI i) + 1).toNatClampNeg = a1) (e2 : xs ((nI i) + 2).toNatClampNeg = a2) (e3 : xs ((nI i) + 3).toNatClampNeg = a3) (e4 : xs ((nI i) + 4).toNatClampNeg = a4) (e5 : xs ((nI i) + 5).toNatClampNeg = a5)
    {H : Heap} {locs : List Loc} (hV : zLo D cI cJ adA adB s σ τ H locs) {ls : Array Slot} (hl : lv_has ls 4 [(0, .ref b), (1, .ref (adA 0)), (2, .ref (adB 0)), (3, .int (nI i))]) : W p l e room_1 s m #[Value.ref b] below meth c H locs 68 4074 (lw_Z below #[Value.ref b] s) (F0 m 1238 ls []) := by
  have hx := hC.1
  have hb := hC.2.1
  have h1 : vp_in ((nI i) + 1) L := zl_in (k := 1) hi6 hLL (by decide)
  have h2 : vp_in ((nI i) + 2) L := zl_in (k := 2) hi6 hLL (by decide)
  have h3 : vp_in ((nI i) + 3) L := zl_in (k := 3) hi6 hLL (by decide)
  have h4 : vp_in ((nI i) + 4) L := zl_in (k := 4) hi6 hLL (by decide)
  have h5 : vp_in ((nI i) + 5) L := zl_in (k := 5) hi6 hLL (by decide)
  refine lv_aload_n hx hb dL_law_1238 rfl (lv_at hl 1 rfl) ?_
  refine lv_aload_n hx hb dL_law_1239 rfl (lv_at hl 0 rfl) ?_
  refine lv_iload_n hx hb dL_law_1240 rfl (lv_at hl 3 rfl) ?_
  refine lv_iconst (v := 1) hx hb dL_law_1241 (by decide) ?_
  refine lv_iadd hx hb dL_law_1242 ?_
  refine zl_ld hC hX hbl hV h1 e1 dL_law_1243 ?_
  refine lv_aload_n hx hb dL_law_1244 rfl (lv_at hl 0 rfl) ?_
  refine lv_iload_n hx hb dL_law_1245 rfl (lv_at hl 3 rfl) ?_
  refine lv_iconst (v := 2) hx hb dL_law_1246 (by decide) ?_
  refine lv_iadd hx hb dL_law_1247 ?_
  refine zl_ld hC hX hbl hV h2 e2 dL_law_1248 ?_
  obtain ⟨r, hq1, hq2, hR⟩ := T_read hR a1 a2
  refine zl_al hL hV (zl_run (u := 0) (As := [.int a1, .int a2]) (rest := []) hC hV.1 hV.2.2 hL.1 (by decide +kernel) (mX7_read a1 a2 σ hL.2.2.1 hq1) cv_L_160 zck_0_0 rfl ⟨⟨rfl, rfl⟩, Nat.le_of_ble_eq_true rfl, Nat.le_of_ble_eq_true rfl⟩ (zlv_size hl) rfl (Nat.le_of_ble_eq_true rfl) dL_law_1249) (fun H locs hV => ?_)
  refine lv_aload_n hx hb dL_law_1252 rfl (lv_at hl 2 rfl) ?_
  refine lv_aload_n hx hb dL_law_1253 rfl (lv_at hl 0 rfl) ?_
  refine lv_iload_n hx hb dL_law_1254 rfl (lv_at hl 3 rfl) ?_
  refine lv_iconst (v := 1) hx hb dL_law_1255 (by decide) ?_
  refine lv_iadd hx hb dL_law_1256 ?_
  refine zl_ld hC hX hbl hV h1 e1 dL_law_1257 ?_
  refine lv_aload_n hx hb dL_law_1258 rfl (lv_at hl 0 rfl) ?_
  refine lv_iload_n hx hb dL_law_1259 rfl (lv_at hl 3 rfl) ?_
  refine lv_iconst (v := 2) hx hb dL_law_1260 (by decide) ?_
  refine lv_iadd hx hb dL_law_1261 ?_
  refine zl_ld hC hX hbl hV h2 e2 dL_law_1262 ?_
  refine zl_bl hL hV (zl_run (u := 1) (As := [.int a1, .int a2]) (rest := [.long r]) hC hV.2.1 hV.2.2 hL.2.1 (by decide +kernel) (mX8_read a1 a2 τ hL.2.2.2.1 hq2) cv_L_163 zck_1_0 rfl ⟨⟨rfl, rfl⟩, Nat.le_of_ble_eq_true rfl, Nat.le_of_ble_eq_true rfl⟩ (zlv_size hl) rfl (Nat.le_of_ble_eq_true rfl) dL_law_1263) (fun H locs hV => ?_)
  refine W.lcmp hx hb dL_law_1266 ?_
  refine lv_if_eq (tgt := 1335) hx hb dL_law_1267 (by decide) (fun _ => ?_) (fun hc => absurd (zl_cmp r) hc)
  refine lv_iinc (v := nI (i + 6)) (lv' := [(3, .int (nI (i + 6))), (0, .ref b), (1, .ref (adA 0)), (2, .ref (adB 0))]) hx hb dL_law_1335 hl (k := 3) rfl (nI_add i 6) (by decide) rfl (fun ls hl => ?_)
  refine lv_goto (tgt := 18) hx hb dL_law_1338 (by decide) ?_
  exact ih (i + 6) _ σ τ (by omega) (by omega) hR _ _ hV ls (lv_sub hl [1, 2, 3, 0] rfl) rfl

set_option maxHeartbeats 4000000 in
set_option maxRecDepth 100000 in
theorem lw_case_35 {p : Program} {l : Launch} {e : Env} {s : State} {m : MethodId} {below : List Frame} {meth : Method} {c : Code} {b L : Nat} {xs : Nat → Int32} {D : va_G} {cI cJ : ClassId} {adA adB : Nat → Nat} (hC : zLx p s m c #[Value.ref b] D cI cJ) (hL : zLa s adA adB) (hX : va_X b L xs s s.heap) (hbl : b < s.heap.size) (hLL : L ≤ 3072) {n : Nat}
    (ih : ∀ (i : Nat) (x3 : Int32) (σ τ : zkS), i ≤ L → L + 1 ≤ i + n → zRel σ τ → ∀ (H : Heap) (locs : List Loc), zLo D cI cJ adA adB s σ τ H locs → ∀ (ls : Array Slot), lv_has ls 4 [(0, .ref b), (1, .ref (adA 0)), (2, .ref (adB 0)), (3, .int x3)] → x3 = nI i → W p l e room_1 s m #[Value.ref b] below meth c H locs 68 4074 (lw_Z below #[Value.ref b] s) (F0 m 18 ls [])) {i : Nat} {σ τ : zkS} (hi6 : i + 6 ≤ L) (hin : L + 1 ≤ i + (n + 1)) (hR : zRel σ τ) {a1 a2 a3 a4 a5 : Int32} (e1 : xs ((nI i) + 1).toNatClampNeg = a1) (e2 : xs ((nI i) + 2).toNatClampNeg = a2) (e3 : xs ((nI i) + 3).toNatClampNeg = a3) (e4 : xs ((nI i) + 4).toNatClampNeg = a4) (e5 : xs ((nI i) + 5).toNatClampNeg = a5)
    {H : Heap} {locs : List Loc} (hV : zLo D cI cJ adA adB s σ τ H locs) {ls : Array Slot} (hl : lv_has ls 4 [(0, .ref b), (1, .ref (adA 0)), (2, .ref (adB 0)), (3, .int (nI i))]) : W p l e room_1 s m #[Value.ref b] below meth c H locs 68 4074 (lw_Z below #[Value.ref b] s) (F0 m 1272 ls []) := by
  have hx := hC.1
  have hb := hC.2.1
  have h1 : vp_in ((nI i) + 1) L := zl_in (k := 1) hi6 hLL (by decide)
  have h2 : vp_in ((nI i) + 2) L := zl_in (k := 2) hi6 hLL (by decide)
  have h3 : vp_in ((nI i) + 3) L := zl_in (k := 3) hi6 hLL (by decide)
  have h4 : vp_in ((nI i) + 4) L := zl_in (k := 4) hi6 hLL (by decide)
  have h5 : vp_in ((nI i) + 5) L := zl_in (k := 5) hi6 hLL (by decide)
  refine lv_aload_n hx hb dL_law_1272 rfl (lv_at hl 1 rfl) ?_
  refine lv_aload_n hx hb dL_law_1273 rfl (lv_at hl 0 rfl) ?_
  refine lv_iload_n hx hb dL_law_1274 rfl (lv_at hl 3 rfl) ?_
  refine lv_iconst (v := 1) hx hb dL_law_1275 (by decide) ?_
  refine lv_iadd hx hb dL_law_1276 ?_
  refine zl_ld hC hX hbl hV h1 e1 dL_law_1277 ?_
  refine lv_aload_n hx hb dL_law_1278 rfl (lv_at hl 0 rfl) ?_
  refine lv_iload_n hx hb dL_law_1279 rfl (lv_at hl 3 rfl) ?_
  refine lv_iconst (v := 2) hx hb dL_law_1280 (by decide) ?_
  refine lv_iadd hx hb dL_law_1281 ?_
  refine zl_ld hC hX hbl hV h2 e2 dL_law_1282 ?_
  refine lv_aload_n hx hb dL_law_1283 rfl (lv_at hl 0 rfl) ?_
  refine lv_iload_n hx hb dL_law_1284 rfl (lv_at hl 3 rfl) ?_
  refine lv_iconst (v := 3) hx hb dL_law_1285 (by decide) ?_
  refine lv_iadd hx hb dL_law_1286 ?_
  refine zl_ld hC hX hbl hV h3 e3 dL_law_1287 ?_
  refine lv_aload_n hx hb dL_law_1288 rfl (lv_at hl 0 rfl) ?_
  refine lv_iload_n hx hb dL_law_1289 rfl (lv_at hl 3 rfl) ?_
  refine lv_iconst (v := 4) hx hb dL_law_1290 (by decide) ?_
  refine lv_iadd hx hb dL_law_1291 ?_
  refine zl_ld hC hX hbl hV h4 e4 dL_law_1292 ?_
  refine lv_aload_n hx hb dL_law_1293 rfl (lv_at hl 0 rfl) ?_
  refine lv_iload_n hx hb dL_law_1294 rfl (lv_at hl 3 rfl) ?_
  refine lv_iconst (v := 5) hx hb dL_law_1295 (by decide) ?_
  refine lv_iadd hx hb dL_law_1296 ?_
  refine zl_ld hC hX hbl hV h5 e5 dL_law_1297 ?_
  obtain ⟨r, σ1, τ1, hq1, hq2, hR⟩ := T_shift hR a1 a2 a3 a4 a5
  refine zl_ai hL hV (zl_run (u := 0) (As := [.int a1, .int a2, .int a3, .int a4, .int a5]) (rest := []) hC hV.1 hV.2.2 hL.1 (by decide +kernel) (mX7_shift a1 a2 a3 a4 a5 σ hL.2.2.1 hq1) cv_L_164 zck_0_0 rfl ⟨⟨rfl, rfl⟩, Nat.le_of_ble_eq_true rfl, Nat.le_of_ble_eq_true rfl⟩ (zlv_size hl) rfl (Nat.le_of_ble_eq_true rfl) dL_law_1298) (fun H locs hV => ?_)
  refine lv_aload_n hx hb dL_law_1301 rfl (lv_at hl 2 rfl) ?_
  refine lv_aload_n hx hb dL_law_1302 rfl (lv_at hl 0 rfl) ?_
  refine lv_iload_n hx hb dL_law_1303 rfl (lv_at hl 3 rfl) ?_
  refine lv_iconst (v := 1) hx hb dL_law_1304 (by decide) ?_
  refine lv_iadd hx hb dL_law_1305 ?_
  refine zl_ld hC hX hbl hV h1 e1 dL_law_1306 ?_
  refine lv_aload_n hx hb dL_law_1307 rfl (lv_at hl 0 rfl) ?_
  refine lv_iload_n hx hb dL_law_1308 rfl (lv_at hl 3 rfl) ?_
  refine lv_iconst (v := 2) hx hb dL_law_1309 (by decide) ?_
  refine lv_iadd hx hb dL_law_1310 ?_
  refine zl_ld hC hX hbl hV h2 e2 dL_law_1311 ?_
  refine lv_aload_n hx hb dL_law_1312 rfl (lv_at hl 0 rfl) ?_
  refine lv_iload_n hx hb dL_law_1313 rfl (lv_at hl 3 rfl) ?_
  refine lv_iconst (v := 3) hx hb dL_law_1314 (by decide) ?_
  refine lv_iadd hx hb dL_law_1315 ?_
  refine zl_ld hC hX hbl hV h3 e3 dL_law_1316 ?_
  refine lv_aload_n hx hb dL_law_1317 rfl (lv_at hl 0 rfl) ?_
  refine lv_iload_n hx hb dL_law_1318 rfl (lv_at hl 3 rfl) ?_
  refine lv_iconst (v := 4) hx hb dL_law_1319 (by decide) ?_
  refine lv_iadd hx hb dL_law_1320 ?_
  refine zl_ld hC hX hbl hV h4 e4 dL_law_1321 ?_
  refine lv_aload_n hx hb dL_law_1322 rfl (lv_at hl 0 rfl) ?_
  refine lv_iload_n hx hb dL_law_1323 rfl (lv_at hl 3 rfl) ?_
  refine lv_iconst (v := 5) hx hb dL_law_1324 (by decide) ?_
  refine lv_iadd hx hb dL_law_1325 ?_
  refine zl_ld hC hX hbl hV h5 e5 dL_law_1326 ?_
  refine zl_bi hL hV (zl_run (u := 1) (As := [.int a1, .int a2, .int a3, .int a4, .int a5]) (rest := [.int r]) hC hV.2.1 hV.2.2 hL.2.1 (by decide +kernel) (mX8_shift a1 a2 a3 a4 a5 τ hL.2.2.2.1 hq2) cv_L_168 zck_1_0 rfl ⟨⟨rfl, rfl⟩, Nat.le_of_ble_eq_true rfl, Nat.le_of_ble_eq_true rfl⟩ (zlv_size hl) rfl (Nat.le_of_ble_eq_true rfl) dL_law_1327) (fun H locs hV => ?_)
  refine lv_icmp_eq (tgt := 1335) hx hb dL_law_1330 (by decide) (fun _ => ?_) (fun hc => absurd rfl hc)
  refine lv_iinc (v := nI (i + 6)) (lv' := [(3, .int (nI (i + 6))), (0, .ref b), (1, .ref (adA 0)), (2, .ref (adB 0))]) hx hb dL_law_1335 hl (k := 3) rfl (nI_add i 6) (by decide) rfl (fun ls hl => ?_)
  refine lv_goto (tgt := 18) hx hb dL_law_1338 (by decide) ?_
  exact ih (i + 6) _ σ1 τ1 (by omega) (by omega) hR _ _ hV ls (lv_sub hl [1, 2, 3, 0] rfl) rfl

set_option maxHeartbeats 4000000 in
set_option maxRecDepth 100000 in
theorem lw_case_99 {p : Program} {l : Launch} {e : Env} {s : State} {m : MethodId} {below : List Frame} {meth : Method} {c : Code} {b L : Nat} {xs : Nat → Int32} {D : va_G} {cI cJ : ClassId} {adA adB : Nat → Nat} (hC : zLx p s m c #[Value.ref b] D cI cJ) (hL : zLa s adA adB) (hX : va_X b L xs s s.heap) (hbl : b < s.heap.size) (hLL : L ≤ 3072) {n : Nat}
    (ih : ∀ (i : Nat) (x3 : Int32) (σ τ : zkS), i ≤ L → L + 1 ≤ i + n → zRel σ τ → ∀ (H : Heap) (locs : List Loc), zLo D cI cJ adA adB s σ τ H locs → ∀ (ls : Array Slot), lv_has ls 4 [(0, .ref b), (1, .ref (adA 0)), (2, .ref (adB 0)), (3, .int x3)] → x3 = nI i → W p l e room_1 s m #[Value.ref b] below meth c H locs 68 4074 (lw_Z below #[Value.ref b] s) (F0 m 18 ls [])) {i : Nat} {σ τ : zkS} (hi6 : i + 6 ≤ L) (hin : L + 1 ≤ i + (n + 1)) (hR : zRel σ τ) {a1 a2 a3 a4 a5 : Int32} (e1 : xs ((nI i) + 1).toNatClampNeg = a1) (e2 : xs ((nI i) + 2).toNatClampNeg = a2) (e3 : xs ((nI i) + 3).toNatClampNeg = a3) (e4 : xs ((nI i) + 4).toNatClampNeg = a4) (e5 : xs ((nI i) + 5).toNatClampNeg = a5)
    {H : Heap} {locs : List Loc} (hV : zLo D cI cJ adA adB s σ τ H locs) {ls : Array Slot} (hl : lv_has ls 4 [(0, .ref b), (1, .ref (adA 0)), (2, .ref (adB 0)), (3, .int (nI i))]) : W p l e room_1 s m #[Value.ref b] below meth c H locs 68 4074 (lw_Z below #[Value.ref b] s) (F0 m 1335 ls []) := by
  have hx := hC.1
  have hb := hC.2.1
  have h1 : vp_in ((nI i) + 1) L := zl_in (k := 1) hi6 hLL (by decide)
  have h2 : vp_in ((nI i) + 2) L := zl_in (k := 2) hi6 hLL (by decide)
  have h3 : vp_in ((nI i) + 3) L := zl_in (k := 3) hi6 hLL (by decide)
  have h4 : vp_in ((nI i) + 4) L := zl_in (k := 4) hi6 hLL (by decide)
  have h5 : vp_in ((nI i) + 5) L := zl_in (k := 5) hi6 hLL (by decide)
  refine lv_iinc (v := nI (i + 6)) (lv' := [(3, .int (nI (i + 6))), (0, .ref b), (1, .ref (adA 0)), (2, .ref (adB 0))]) hx hb dL_law_1335 hl (k := 3) rfl (nI_add i 6) (by decide) rfl (fun ls hl => ?_)
  refine lv_goto (tgt := 18) hx hb dL_law_1338 (by decide) ?_
  exact ih (i + 6) _ σ τ (by omega) (by omega) hR _ _ hV ls (lv_sub hl [1, 2, 3, 0] rfl) rfl
theorem zl_le {i L : Nat} (hL : L ≤ 3072) (hi : i ≤ L) (hc : ¬ (Int32.ofNat L - 6) < nI i) : i + 6 ≤ L := by
  rcases Nat.lt_or_ge L 6 with h | h
  · exfalso
    apply hc
    have e1 : (nI i).toInt = (i : Int) := nI_toInt (by omega)
    have e2 : (nI L - nI 6).toInt = (L : Int) - 6 := pk_sub_toInt (by omega) (by omega)
    have e3 : (nI L - nI 6) < nI i := by
      rw [Int32.lt_iff_toInt_lt, e1, e2]
      omega
    exact e3
  · have e : (nI L - nI 6 : Int32) = nI (L - 6) := pk_sub h
    have hc' : ¬ nI (L - 6) < nI i := by rw [← e]; exact hc
    rw [nI_ltI (by omega) (by omega)] at hc'
    omega
set_option maxHeartbeats 4000000 in
set_option maxRecDepth 100000 in
theorem lw_loop {p : Program} {l : Launch} {e : Env} {s : State} {m : MethodId} {below : List Frame} {meth : Method} {c : Code} {b L : Nat} {xs : Nat → Int32} {D : va_G} {cI cJ : ClassId} {adA adB : Nat → Nat} (hC : zLx p s m c #[Value.ref b] D cI cJ) (hr : meth.sig.returnType = ret) (hlocks : meth.locks = false) (hL : zLa s adA adB) (hX : va_X b L xs s s.heap) (hbl : b < s.heap.size) (hLL : L ≤ 3072) : ∀ n : Nat, ∀ (i : Nat) (x3 : Int32) (σ τ : zkS), i ≤ L → L + 1 ≤ i + n → zRel σ τ → ∀ (H : Heap) (locs : List Loc), zLo D cI cJ adA adB s σ τ H locs → ∀ (ls : Array Slot), lv_has ls 4 [(0, .ref b), (1, .ref (adA 0)), (2, .ref (adB 0)), (3, .int x3)] → x3 = nI i → W p l e room_1 s m #[Value.ref b] below meth c H locs 68 4074 (lw_Z below #[Value.ref b] s) (F0 m 18 ls []) := by
  have hx := hC.1
  have hb := hC.2.1
  intro n
  induction n with
  | zero =>
    intro i x3 σ τ hi hin
    omega
  | succ n ih =>
    intro i x3 σ τ hi hin hR H locs hV ls hl ex3
    subst ex3
    refine lv_iload_n hx hb dL_law_18 rfl (lv_at hl 3 rfl) ?_
    refine lv_aload_n hx hb dL_law_19 rfl (lv_at hl 0 rfl) ?_
    refine va_slen hx hb hX hbl (Nat.not_le.mpr hbl) hV.2.2 dL_law_20 ?_
    refine lv_bipush (v := 6) hx hb dL_law_21 (by decide) ?_
    refine lv_isub hx hb dL_law_23 ?_
    refine lv_icmp_gt (tgt := 1341) hx hb dL_law_24 (by decide) (fun hc => ?_) (fun hc => ?_)
    · refine lv_iconst (v := 1) hx hb dL_law_1341 (by decide) ?_
      refine va_forget (fun q hq => hV.2.2.2.2 q hq) ?_
      exact lw_ret hx hb hr hlocks dL_law_1342
    have hi6 : i + 6 ≤ L := zl_le hLL hi hc
    refine lv_aload_n hx hb dL_law_27 rfl (lv_at hl 0 rfl) ?_
    refine lv_iload_n hx hb dL_law_28 rfl (lv_at hl 3 rfl) ?_
    refine zl_ld hC hX hbl hV (v := xs i) (vp_in_nI (by omega) (by omega)) (by rw [nI_clamp (by omega)]) dL_law_29 ?_
    refine lv_bipush (v := 63) hx hb dL_law_30 (by decide) ?_
    refine lv_iand hx hb dL_law_32 ?_
    refine lv_topi (fun w _ => ?_)
    by_cases q0 : w = 0
    · refine zs_in (off := 159) (tgt := 192) hx hb q0 dL_law_33 (by decide) (by decide) (by decide +kernel) (by decide) ?_
      exact lw_case_0 hC hL hX hbl hLL ih hi6 hin hR rfl rfl rfl rfl rfl hV hl
    by_cases q1 : w = 1
    · refine zs_in (off := 202) (tgt := 235) hx hb q1 dL_law_33 (by decide) (by decide) (by decide +kernel) (by decide) ?_
      exact lw_case_1 hC hL hX hbl hLL ih hi6 hin hR rfl rfl rfl rfl rfl hV hl
    by_cases q2 : w = 2
    · refine zs_in (off := 235) (tgt := 268) hx hb q2 dL_law_33 (by decide) (by decide) (by decide +kernel) (by decide) ?_
      exact lw_case_2 hC hL hX hbl hLL ih hi6 hin hR rfl rfl rfl rfl rfl hV hl
    by_cases q3 : w = 3
    · refine zs_in (off := 268) (tgt := 301) hx hb q3 dL_law_33 (by decide) (by decide) (by decide +kernel) (by decide) ?_
      exact lw_case_3 hC hL hX hbl hLL ih hi6 hin hR rfl rfl rfl rfl rfl hV hl
    by_cases q4 : w = 4
    · refine zs_in (off := 301) (tgt := 334) hx hb q4 dL_law_33 (by decide) (by decide) (by decide +kernel) (by decide) ?_
      exact lw_case_4 hC hL hX hbl hLL ih hi6 hin hR rfl rfl rfl rfl rfl hV hl
    by_cases q5 : w = 5
    · refine zs_in (off := 344) (tgt := 377) hx hb q5 dL_law_33 (by decide) (by decide) (by decide +kernel) (by decide) ?_
      exact lw_case_5 hC hL hX hbl hLL ih hi6 hin hR rfl rfl rfl rfl rfl hV hl
    by_cases q6 : w = 6
    · refine zs_in (off := 377) (tgt := 410) hx hb q6 dL_law_33 (by decide) (by decide) (by decide +kernel) (by decide) ?_
      exact lw_case_6 hC hL hX hbl hLL ih hi6 hin hR rfl rfl rfl rfl rfl hV hl
    by_cases q7 : w = 7
    · refine zs_in (off := 410) (tgt := 443) hx hb q7 dL_law_33 (by decide) (by decide) (by decide +kernel) (by decide) ?_
      exact lw_case_7 hC hL hX hbl hLL ih hi6 hin hR rfl rfl rfl rfl rfl hV hl
    by_cases q8 : w = 8
    · refine zs_in (off := 459) (tgt := 492) hx hb q8 dL_law_33 (by decide) (by decide) (by decide +kernel) (by decide) ?_
      exact lw_case_8 hC hL hX hbl hLL ih hi6 hin hR rfl rfl rfl rfl rfl hV hl
    by_cases q9 : w = 9
    · refine zs_in (off := 482) (tgt := 515) hx hb q9 dL_law_33 (by decide) (by decide) (by decide +kernel) (by decide) ?_
      exact lw_case_9 hC hL hX hbl hLL ih hi6 hin hR rfl rfl rfl rfl rfl hV hl
    by_cases q10 : w = 10
    · refine zs_in (off := 505) (tgt := 538) hx hb q10 dL_law_33 (by decide) (by decide) (by decide +kernel) (by decide) ?_
      exact lw_case_10 hC hL hX hbl hLL ih hi6 hin hR rfl rfl rfl rfl rfl hV hl
    by_cases q11 : w = 11
    · refine zs_in (off := 528) (tgt := 561) hx hb q11 dL_law_33 (by decide) (by decide) (by decide +kernel) (by decide) ?_
      exact lw_case_11 hC hL hX hbl hLL ih hi6 hin hR rfl rfl rfl rfl rfl hV hl
    by_cases q12 : w = 12
    · refine zs_in (off := 551) (tgt := 584) hx hb q12 dL_law_33 (by decide) (by decide) (by decide +kernel) (by decide) ?_
      exact lw_case_12 hC hL hX hbl hLL ih hi6 hin hR rfl rfl rfl rfl rfl hV hl
    by_cases q13 : w = 13
    · refine zs_in (off := 564) (tgt := 597) hx hb q13 dL_law_33 (by decide) (by decide) (by decide +kernel) (by decide) ?_
      exact lw_case_13 hC hL hX hbl hLL ih hi6 hin hR rfl rfl rfl rfl rfl hV hl
    by_cases q14 : w = 14
    · refine zs_in (off := 577) (tgt := 610) hx hb q14 dL_law_33 (by decide) (by decide) (by decide +kernel) (by decide) ?_
      exact lw_case_14 hC hL hX hbl hLL ih hi6 hin hR rfl rfl rfl rfl rfl hV hl
    by_cases q15 : w = 15
    · refine zs_in (off := 600) (tgt := 633) hx hb q15 dL_law_33 (by decide) (by decide) (by decide +kernel) (by decide) ?_
      exact lw_case_15 hC hL hX hbl hLL ih hi6 hin hR rfl rfl rfl rfl rfl hV hl
    by_cases q16 : w = 16
    · refine zs_in (off := 633) (tgt := 666) hx hb q16 dL_law_33 (by decide) (by decide) (by decide +kernel) (by decide) ?_
      exact lw_case_16 hC hL hX hbl hLL ih hi6 hin hR rfl rfl rfl rfl rfl hV hl
    by_cases q17 : w = 17
    · refine zs_in (off := 666) (tgt := 699) hx hb q17 dL_law_33 (by decide) (by decide) (by decide +kernel) (by decide) ?_
      exact lw_case_17 hC hL hX hbl hLL ih hi6 hin hR rfl rfl rfl rfl rfl hV hl
    by_cases q18 : w = 18
    · refine zs_in (off := 689) (tgt := 722) hx hb q18 dL_law_33 (by decide) (by decide) (by decide +kernel) (by decide) ?_
      exact lw_case_18 hC hL hX hbl hLL ih hi6 hin hR rfl rfl rfl rfl rfl hV hl
    by_cases q19 : w = 19
    · refine zs_in (off := 748) (tgt := 781) hx hb q19 dL_law_33 (by decide) (by decide) (by decide +kernel) (by decide) ?_
      exact lw_case_19 hC hL hX hbl hLL ih hi6 hin hR rfl rfl rfl rfl rfl hV hl
    by_cases q20 : w = 20
    · refine zs_in (off := 771) (tgt := 804) hx hb q20 dL_law_33 (by decide) (by decide) (by decide +kernel) (by decide) ?_
      exact lw_case_20 hC hL hX hbl hLL ih hi6 hin hR rfl rfl rfl rfl rfl hV hl
    by_cases q21 : w = 21
    · refine zs_in (off := 814) (tgt := 847) hx hb q21 dL_law_33 (by decide) (by decide) (by decide +kernel) (by decide) ?_
      exact lw_case_21 hC hL hX hbl hLL ih hi6 hin hR rfl rfl rfl rfl rfl hV hl
    by_cases q22 : w = 22
    · refine zs_in (off := 848) (tgt := 881) hx hb q22 dL_law_33 (by decide) (by decide) (by decide +kernel) (by decide) ?_
      exact lw_case_22 hC hL hX hbl hLL ih hi6 hin hR rfl rfl rfl rfl rfl hV hl
    by_cases q23 : w = 23
    · refine zs_in (off := 872) (tgt := 905) hx hb q23 dL_law_33 (by decide) (by decide) (by decide +kernel) (by decide) ?_
      exact lw_case_23 hC hL hX hbl hLL ih hi6 hin hR rfl rfl rfl rfl rfl hV hl
    by_cases q24 : w = 24
    · refine zs_in (off := 905) (tgt := 938) hx hb q24 dL_law_33 (by decide) (by decide) (by decide +kernel) (by decide) ?_
      exact lw_case_24 hC hL hX hbl hLL ih hi6 hin hR rfl rfl rfl rfl rfl hV hl
    by_cases q25 : w = 25
    · refine zs_in (off := 918) (tgt := 951) hx hb q25 dL_law_33 (by decide) (by decide) (by decide +kernel) (by decide) ?_
      exact lw_case_25 hC hL hX hbl hLL ih hi6 hin hR rfl rfl rfl rfl rfl hV hl
    by_cases q26 : w = 26
    · refine zs_in (off := 961) (tgt := 994) hx hb q26 dL_law_33 (by decide) (by decide) (by decide +kernel) (by decide) ?_
      exact lw_case_26 hC hL hX hbl hLL ih hi6 hin hR rfl rfl rfl rfl rfl hV hl
    by_cases q27 : w = 27
    · refine zs_in (off := 974) (tgt := 1007) hx hb q27 dL_law_33 (by decide) (by decide) (by decide +kernel) (by decide) ?_
      exact lw_case_27 hC hL hX hbl hLL ih hi6 hin hR rfl rfl rfl rfl rfl hV hl
    by_cases q28 : w = 28
    · refine zs_in (off := 1007) (tgt := 1040) hx hb q28 dL_law_33 (by decide) (by decide) (by decide +kernel) (by decide) ?_
      exact lw_case_28 hC hL hX hbl hLL ih hi6 hin hR rfl rfl rfl rfl rfl hV hl
    by_cases q29 : w = 29
    · refine zs_in (off := 1020) (tgt := 1053) hx hb q29 dL_law_33 (by decide) (by decide) (by decide +kernel) (by decide) ?_
      exact lw_case_29 hC hL hX hbl hLL ih hi6 hin hR rfl rfl rfl rfl rfl hV hl
    by_cases q30 : w = 30
    · refine zs_in (off := 1033) (tgt := 1066) hx hb q30 dL_law_33 (by decide) (by decide) (by decide +kernel) (by decide) ?_
      exact lw_case_30 hC hL hX hbl hLL ih hi6 hin hR rfl rfl rfl rfl rfl hV hl
    by_cases q31 : w = 31
    · refine zs_in (off := 1066) (tgt := 1099) hx hb q31 dL_law_33 (by decide) (by decide) (by decide +kernel) (by decide) ?_
      exact lw_case_31 hC hL hX hbl hLL ih hi6 hin hR rfl rfl rfl rfl rfl hV hl
    by_cases q32 : w = 32
    · refine zs_in (off := 1089) (tgt := 1122) hx hb q32 dL_law_33 (by decide) (by decide) (by decide +kernel) (by decide) ?_
      exact lw_case_32 hC hL hX hbl hLL ih hi6 hin hR rfl rfl rfl rfl rfl hV hl
    by_cases q33 : w = 33
    · refine zs_in (off := 1132) (tgt := 1165) hx hb q33 dL_law_33 (by decide) (by decide) (by decide +kernel) (by decide) ?_
      exact lw_case_33 hC hL hX hbl hLL ih hi6 hin hR rfl rfl rfl rfl rfl hV hl
    by_cases q34 : w = 34
    · refine zs_in (off := 1205) (tgt := 1238) hx hb q34 dL_law_33 (by decide) (by decide) (by decide +kernel) (by decide) ?_
      exact lw_case_34 hC hL hX hbl hLL ih hi6 hin hR rfl rfl rfl rfl rfl hV hl
    by_cases q35 : w = 35
    · refine zs_in (off := 1239) (tgt := 1272) hx hb q35 dL_law_33 (by decide) (by decide) (by decide +kernel) (by decide) ?_
      exact lw_case_35 hC hL hX hbl hLL ih hi6 hin hR rfl rfl rfl rfl rfl hV hl
    refine lv_tableOut (tgt := 1335) hx hb dL_law_33 (by have n0 := lv_neT q0 (show (0 : Int32).toInt = 0 from rfl); have n1 := lv_neT q1 (show (1 : Int32).toInt = 1 from rfl); have n2 := lv_neT q2 (show (2 : Int32).toInt = 2 from rfl); have n3 := lv_neT q3 (show (3 : Int32).toInt = 3 from rfl); have n4 := lv_neT q4 (show (4 : Int32).toInt = 4 from rfl); have n5 := lv_neT q5 (show (5 : Int32).toInt = 5 from rfl); have n6 := lv_neT q6 (show (6 : Int32).toInt = 6 from rfl); have n7 := lv_neT q7 (show (7 : Int32).toInt = 7 from rfl); have n8 := lv_neT q8 (show (8 : Int32).toInt = 8 from rfl); have n9 := lv_neT q9 (show (9 : Int32).toInt = 9 from rfl); have n10 := lv_neT q10 (show (10 : Int32).toInt = 10 from rfl); have n11 := lv_neT q11 (show (11 : Int32).toInt = 11 from rfl); have n12 := lv_neT q12 (show (12 : Int32).toInt = 12 from rfl); have n13 := lv_neT q13 (show (13 : Int32).toInt = 13 from rfl); have n14 := lv_neT q14 (show (14 : Int32).toInt = 14 from rfl); have n15 := lv_neT q15 (show (15 : Int32).toInt = 15 from rfl); have n16 := lv_neT q16 (show (16 : Int32).toInt = 16 from rfl); have n17 := lv_neT q17 (show (17 : Int32).toInt = 17 from rfl); have n18 := lv_neT q18 (show (18 : Int32).toInt = 18 from rfl); have n19 := lv_neT q19 (show (19 : Int32).toInt = 19 from rfl); have n20 := lv_neT q20 (show (20 : Int32).toInt = 20 from rfl); have n21 := lv_neT q21 (show (21 : Int32).toInt = 21 from rfl); have n22 := lv_neT q22 (show (22 : Int32).toInt = 22 from rfl); have n23 := lv_neT q23 (show (23 : Int32).toInt = 23 from rfl); have n24 := lv_neT q24 (show (24 : Int32).toInt = 24 from rfl); have n25 := lv_neT q25 (show (25 : Int32).toInt = 25 from rfl); have n26 := lv_neT q26 (show (26 : Int32).toInt = 26 from rfl); have n27 := lv_neT q27 (show (27 : Int32).toInt = 27 from rfl); have n28 := lv_neT q28 (show (28 : Int32).toInt = 28 from rfl); have n29 := lv_neT q29 (show (29 : Int32).toInt = 29 from rfl); have n30 := lv_neT q30 (show (30 : Int32).toInt = 30 from rfl); have n31 := lv_neT q31 (show (31 : Int32).toInt = 31 from rfl); have n32 := lv_neT q32 (show (32 : Int32).toInt = 32 from rfl); have n33 := lv_neT q33 (show (33 : Int32).toInt = 33 from rfl); have n34 := lv_neT q34 (show (34 : Int32).toInt = 34 from rfl); have n35 := lv_neT q35 (show (35 : Int32).toInt = 35 from rfl); omega) (by decide) ?_
    exact lw_case_99 hC hL hX hbl hLL ih hi6 hin hR rfl rfl rfl rfl rfl hV hl
