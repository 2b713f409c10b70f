/-! ===== the law's cases, written by program ===== -/
set_option maxRecDepth 100000 in
theorem lkSb_lodger : lx_cok (13, 3, 7, rSb_lodger) := ⟨⟨sx_in 368 (by decide +kernel) rfl, sx_in 369 (by decide +kernel) rfl, sx_in 370 (by decide +kernel) rfl, by decide +kernel⟩, rkSb_lodger⟩
set_option maxRecDepth 100000 in
theorem lkMo_lodger : lx_cok (17, 3, 8, rMo_lodger) := ⟨⟨sx_in 880 (by decide +kernel) rfl, sx_in 881 (by decide +kernel) rfl, sx_in 882 (by decide +kernel) rfl, by decide +kernel⟩, rkMo_lodger⟩
set_option maxRecDepth 100000 in
theorem lkSb_leave : lx_cok (18, 1, 7, rSb_leave) := ⟨⟨sx_in 401 (by decide +kernel) rfl, sx_in 402 (by decide +kernel) rfl, sx_in 403 (by decide +kernel) rfl, by decide +kernel⟩, rkSb_leave⟩
set_option maxRecDepth 100000 in
theorem lkMo_leave : lx_cok (22, 1, 8, rMo_leave) := ⟨⟨sx_in 894 (by decide +kernel) rfl, sx_in 895 (by decide +kernel) rfl, sx_in 896 (by decide +kernel) rfl, by decide +kernel⟩, rkMo_leave⟩
set_option maxRecDepth 100000 in
theorem lkSb_told : lx_cok (23, 2, 7, rSb_told) := ⟨⟨sx_in 413 (by decide +kernel) rfl, sx_in 414 (by decide +kernel) rfl, sx_in 415 (by decide +kernel) rfl, by decide +kernel⟩, rkSb_told⟩
set_option maxRecDepth 100000 in
theorem lkMo_told : lx_cok (27, 2, 8, rMo_told) := ⟨⟨sx_in 902 (by decide +kernel) rfl, sx_in 903 (by decide +kernel) rfl, sx_in 904 (by decide +kernel) rfl, by decide +kernel⟩, rkMo_told⟩
set_option maxRecDepth 100000 in
theorem lkSb_work : lx_cok (28, 2, 7, rSb_work) := ⟨⟨sx_in 417 (by decide +kernel) rfl, sx_in 418 (by decide +kernel) rfl, sx_in 419 (by decide +kernel) rfl, by decide +kernel⟩, rkSb_work⟩
set_option maxRecDepth 100000 in
theorem lkMo_work : lx_cok (31, 2, 8, rMo_work) := ⟨⟨sx_in 918 (by decide +kernel) rfl, sx_in 919 (by decide +kernel) rfl, sx_in 920 (by decide +kernel) rfl, by decide +kernel⟩, rkMo_work⟩
set_option maxRecDepth 100000 in
theorem lkSb_sleeps : lx_cok (32, 2, 7, rSb_sleeps) := ⟨⟨sx_in 425 (by decide +kernel) rfl, sx_in 426 (by decide +kernel) rfl, sx_in 427 (by decide +kernel) rfl, by decide +kernel⟩, rkSb_sleeps⟩
set_option maxRecDepth 100000 in
theorem lkMo_sleeps : lx_cok (35, 2, 8, rMo_sleeps) := ⟨⟨sx_in 922 (by decide +kernel) rfl, sx_in 923 (by decide +kernel) rfl, sx_in 924 (by decide +kernel) rfl, by decide +kernel⟩, rkMo_sleeps⟩
set_option maxRecDepth 100000 in
theorem lkSb_beds : lx_cok (36, 1, 7, rSb_beds) := ⟨⟨sx_in 433 (by decide +kernel) rfl, sx_in 434 (by decide +kernel) rfl, sx_in 435 (by decide +kernel) rfl, by decide +kernel⟩, rkSb_beds⟩
set_option maxRecDepth 100000 in
theorem lkMo_beds : lx_cok (39, 1, 8, rMo_beds) := ⟨⟨sx_in 930 (by decide +kernel) rfl, sx_in 931 (by decide +kernel) rfl, sx_in 932 (by decide +kernel) rfl, by decide +kernel⟩, rkMo_beds⟩
set_option maxRecDepth 100000 in
theorem lkSb_lasts : lx_cok (40, 1, 7, rSb_lasts) := ⟨⟨sx_in 441 (by decide +kernel) rfl, sx_in 442 (by decide +kernel) rfl, sx_in 443 (by decide +kernel) rfl, by decide +kernel⟩, rkSb_lasts⟩
set_option maxRecDepth 100000 in
theorem lkMo_lasts : lx_cok (43, 1, 8, rMo_lasts) := ⟨⟨sx_in 934 (by decide +kernel) rfl, sx_in 935 (by decide +kernel) rfl, sx_in 936 (by decide +kernel) rfl, by decide +kernel⟩, rkMo_lasts⟩
set_option maxRecDepth 100000 in
theorem lkSb_type : lx_cok (46, 2, 7, rSb_type) := ⟨⟨sx_in 445 (by decide +kernel) rfl, sx_in 446 (by decide +kernel) rfl, sx_in 447 (by decide +kernel) rfl, by decide +kernel⟩, rkSb_type⟩
set_option maxRecDepth 100000 in
theorem lkMo_type : lx_cok (50, 2, 8, rMo_type) := ⟨⟨sx_in 1049 (by decide +kernel) rfl, sx_in 1050 (by decide +kernel) rfl, sx_in 1051 (by decide +kernel) rfl, by decide +kernel⟩, rkMo_type⟩
set_option maxRecDepth 100000 in
theorem lkSb_lodging : lx_cok (51, 0, 7, rSb_lodging) := ⟨⟨sx_in 463 (by decide +kernel) rfl, sx_in 464 (by decide +kernel) rfl, sx_in 465 (by decide +kernel) rfl, by decide +kernel⟩, rkSb_lodging⟩
set_option maxRecDepth 100000 in
theorem lkMo_lodging : lx_cok (55, 0, 8, rMo_lodging) := ⟨⟨sx_in 1056 (by decide +kernel) rfl, sx_in 1057 (by decide +kernel) rfl, sx_in 1058 (by decide +kernel) rfl, by decide +kernel⟩, rkMo_lodging⟩
set_option maxRecDepth 100000 in
theorem lkSb_count : lx_cok (56, 1, 7, rSb_count) := ⟨⟨sx_in 492 (by decide +kernel) rfl, sx_in 493 (by decide +kernel) rfl, sx_in 494 (by decide +kernel) rfl, by decide +kernel⟩, rkSb_count⟩
set_option maxRecDepth 100000 in
theorem lkMo_count : lx_cok (59, 1, 8, rMo_count) := ⟨⟨sx_in 939 (by decide +kernel) rfl, sx_in 940 (by decide +kernel) rfl, sx_in 941 (by decide +kernel) rfl, by decide +kernel⟩, rkMo_count⟩
set_option maxRecDepth 100000 in
theorem lkSb_first : lx_cok (60, 1, 7, rSb_first) := ⟨⟨sx_in 519 (by decide +kernel) rfl, sx_in 520 (by decide +kernel) rfl, sx_in 521 (by decide +kernel) rfl, by decide +kernel⟩, rkSb_first⟩
set_option maxRecDepth 100000 in
theorem lkMo_first : lx_cok (63, 1, 8, rMo_first) := ⟨⟨sx_in 955 (by decide +kernel) rfl, sx_in 956 (by decide +kernel) rfl, sx_in 957 (by decide +kernel) rfl, by decide +kernel⟩, rkMo_first⟩
set_option maxRecDepth 100000 in
theorem lkSb_ways : lx_cok (64, 0, 7, rSb_ways) := ⟨⟨sx_in 576 (by decide +kernel) rfl, sx_in 577 (by decide +kernel) rfl, sx_in 578 (by decide +kernel) rfl, by decide +kernel⟩, rkSb_ways⟩
set_option maxRecDepth 100000 in
theorem lkMo_ways : lx_cok (67, 0, 8, rMo_ways) := ⟨⟨sx_in 967 (by decide +kernel) rfl, sx_in 968 (by decide +kernel) rfl, sx_in 969 (by decide +kernel) rfl, by decide +kernel⟩, rkMo_ways⟩
set_option maxRecDepth 100000 in
theorem lkSb_fewest : lx_cok (68, 0, 7, rSb_fewest) := ⟨⟨sx_in 587 (by decide +kernel) rfl, sx_in 588 (by decide +kernel) rfl, sx_in 589 (by decide +kernel) rfl, by decide +kernel⟩, rkSb_fewest⟩
set_option maxRecDepth 100000 in
theorem lkMo_fewest : lx_cok (71, 0, 8, rMo_fewest) := ⟨⟨sx_in 971 (by decide +kernel) rfl, sx_in 972 (by decide +kernel) rfl, sx_in 973 (by decide +kernel) rfl, by decide +kernel⟩, rkMo_fewest⟩
set_option maxRecDepth 100000 in
theorem lkSb_take : lx_cok (72, 0, 7, rSb_take) := ⟨⟨sx_in 595 (by decide +kernel) rfl, sx_in 596 (by decide +kernel) rfl, sx_in 597 (by decide +kernel) rfl, by decide +kernel⟩, rkSb_take⟩
set_option maxRecDepth 100000 in
theorem lkMo_take : lx_cok (75, 0, 8, rMo_take) := ⟨⟨sx_in 975 (by decide +kernel) rfl, sx_in 976 (by decide +kernel) rfl, sx_in 977 (by decide +kernel) rfl, by decide +kernel⟩, rkMo_take⟩
set_option maxRecDepth 100000 in
theorem lkSb_move : lx_cok (76, 2, 7, rSb_move) := ⟨⟨sx_in 604 (by decide +kernel) rfl, sx_in 605 (by decide +kernel) rfl, sx_in 606 (by decide +kernel) rfl, by decide +kernel⟩, rkSb_move⟩
set_option maxRecDepth 100000 in
theorem lkMo_move : lx_cok (79, 2, 8, rMo_move) := ⟨⟨sx_in 983 (by decide +kernel) rfl, sx_in 984 (by decide +kernel) rfl, sx_in 985 (by decide +kernel) rfl, by decide +kernel⟩, rkMo_move⟩
set_option maxRecDepth 100000 in
theorem lkSb_mended : lx_cok (80, 1, 7, rSb_mended) := ⟨⟨sx_in 612 (by decide +kernel) rfl, sx_in 613 (by decide +kernel) rfl, sx_in 614 (by decide +kernel) rfl, by decide +kernel⟩, rkSb_mended⟩
set_option maxRecDepth 100000 in
theorem lkMo_mended : lx_cok (83, 1, 8, rMo_mended) := ⟨⟨sx_in 987 (by decide +kernel) rfl, sx_in 988 (by decide +kernel) rfl, sx_in 989 (by decide +kernel) rfl, by decide +kernel⟩, rkMo_mended⟩
set_option maxRecDepth 100000 in
theorem lkSb_rents : lx_cok (84, 1, 7, rSb_rents) := ⟨⟨sx_in 620 (by decide +kernel) rfl, sx_in 621 (by decide +kernel) rfl, sx_in 622 (by decide +kernel) rfl, by decide +kernel⟩, rkSb_rents⟩
set_option maxRecDepth 100000 in
theorem lkMo_rents : lx_cok (87, 1, 8, rMo_rents) := ⟨⟨sx_in 991 (by decide +kernel) rfl, sx_in 992 (by decide +kernel) rfl, sx_in 993 (by decide +kernel) rfl, by decide +kernel⟩, rkMo_rents⟩
set_option maxRecDepth 100000 in
theorem lkSb_bed : lx_cok (88, 2, 7, rSb_bed) := ⟨⟨sx_in 658 (by decide +kernel) rfl, sx_in 659 (by decide +kernel) rfl, sx_in 660 (by decide +kernel) rfl, by decide +kernel⟩, rkSb_bed⟩
set_option maxRecDepth 100000 in
theorem lkMo_bed : lx_cok (91, 2, 8, rMo_bed) := ⟨⟨sx_in 1004 (by decide +kernel) rfl, sx_in 1005 (by decide +kernel) rfl, sx_in 1006 (by decide +kernel) rfl, by decide +kernel⟩, rkMo_bed⟩
set_option maxRecDepth 100000 in
theorem lkSb_linen : lx_cok (92, 0, 7, rSb_linen) := ⟨⟨sx_in 684 (by decide +kernel) rfl, sx_in 685 (by decide +kernel) rfl, sx_in 686 (by decide +kernel) rfl, by decide +kernel⟩, rkSb_linen⟩
set_option maxRecDepth 100000 in
theorem lkMo_linen : lx_cok (95, 0, 8, rMo_linen) := ⟨⟨sx_in 1020 (by decide +kernel) rfl, sx_in 1021 (by decide +kernel) rfl, sx_in 1022 (by decide +kernel) rfl, by decide +kernel⟩, rkMo_linen⟩
set_option maxRecDepth 100000 in
theorem lkSb_sick : lx_cok (96, 2, 7, rSb_sick) := ⟨⟨sx_in 696 (by decide +kernel) rfl, sx_in 697 (by decide +kernel) rfl, sx_in 698 (by decide +kernel) rfl, by decide +kernel⟩, rkSb_sick⟩
set_option maxRecDepth 100000 in
theorem lkMo_sick : lx_cok (99, 2, 8, rMo_sick) := ⟨⟨sx_in 1032 (by decide +kernel) rfl, sx_in 1033 (by decide +kernel) rfl, sx_in 1034 (by decide +kernel) rfl, by decide +kernel⟩, rkMo_sick⟩
set_option maxRecDepth 100000 in
theorem lkSb_brought : lx_cok (100, 2, 7, rSb_brought) := ⟨⟨sx_in 719 (by decide +kernel) rfl, sx_in 720 (by decide +kernel) rfl, sx_in 721 (by decide +kernel) rfl, by decide +kernel⟩, rkSb_brought⟩
set_option maxRecDepth 100000 in
theorem lkMo_brought : lx_cok (103, 2, 8, rMo_brought) := ⟨⟨sx_in 1045 (by decide +kernel) rfl, sx_in 1046 (by decide +kernel) rfl, sx_in 1047 (by decide +kernel) rfl, by decide +kernel⟩, rkMo_brought⟩
set_option maxRecDepth 100000 in
theorem lkSb_image : lx_cok (104, 0, 7, rSb_image) := ⟨⟨sx_in 728 (by decide +kernel) rfl, sx_in 729 (by decide +kernel) rfl, sx_in 730 (by decide +kernel) rfl, by decide +kernel⟩, rkSb_image⟩
set_option maxRecDepth 100000 in
theorem lkMo_image : lx_cok (107, 0, 8, rMo_image) := ⟨⟨sx_in 1081 (by decide +kernel) rfl, sx_in 1082 (by decide +kernel) rfl, sx_in 1083 (by decide +kernel) rfl, by decide +kernel⟩, rkMo_image⟩
set_option maxRecDepth 100000 in
theorem lkSb_restore : lx_cok (108, 0, 7, rSb_restore) := ⟨⟨sx_in 736 (by decide +kernel) rfl, sx_in 737 (by decide +kernel) rfl, sx_in 738 (by decide +kernel) rfl, by decide +kernel⟩, rkSb_restore⟩
set_option maxRecDepth 100000 in
theorem lkMo_restore : lx_cok (111, 0, 8, rMo_restore) := ⟨⟨sx_in 1089 (by decide +kernel) rfl, sx_in 1090 (by decide +kernel) rfl, sx_in 1091 (by decide +kernel) rfl, by decide +kernel⟩, rkMo_restore⟩
set_option maxRecDepth 100000 in
theorem lkSb_lay : lx_cok (112, 3, 7, rSb_lay) := ⟨⟨sx_in 740 (by decide +kernel) rfl, sx_in 741 (by decide +kernel) rfl, sx_in 742 (by decide +kernel) rfl, by decide +kernel⟩, rkSb_lay⟩
set_option maxRecDepth 100000 in
theorem lkMo_lay : lx_cok (115, 3, 8, rMo_lay) := ⟨⟨sx_in 1097 (by decide +kernel) rfl, sx_in 1098 (by decide +kernel) rfl, sx_in 1099 (by decide +kernel) rfl, by decide +kernel⟩, rkMo_lay⟩
set_option maxRecDepth 100000 in
theorem lkSb_judged : lx_cok (116, 3, 7, rSb_judged) := ⟨⟨sx_in 762 (by decide +kernel) rfl, sx_in 763 (by decide +kernel) rfl, sx_in 764 (by decide +kernel) rfl, by decide +kernel⟩, rkSb_judged⟩
set_option maxRecDepth 100000 in
theorem lkMo_judged : lx_cok (119, 3, 8, rMo_judged) := ⟨⟨sx_in 1112 (by decide +kernel) rfl, sx_in 1113 (by decide +kernel) rfl, sx_in 1114 (by decide +kernel) rfl, by decide +kernel⟩, rkMo_judged⟩
set_option maxRecDepth 100000 in
theorem lkSb_clears : lx_cok (120, 3, 7, rSb_clears) := ⟨⟨sx_in 766 (by decide +kernel) rfl, sx_in 767 (by decide +kernel) rfl, sx_in 768 (by decide +kernel) rfl, by decide +kernel⟩, rkSb_clears⟩
set_option maxRecDepth 100000 in
theorem lkMo_clears : lx_cok (123, 3, 8, rMo_clears) := ⟨⟨sx_in 1116 (by decide +kernel) rfl, sx_in 1117 (by decide +kernel) rfl, sx_in 1118 (by decide +kernel) rfl, by decide +kernel⟩, rkMo_clears⟩
set_option maxRecDepth 100000 in
theorem lkSb_sheet : lx_cok (124, 3, 7, rSb_sheet) := ⟨⟨sx_in 772 (by decide +kernel) rfl, sx_in 773 (by decide +kernel) rfl, sx_in 774 (by decide +kernel) rfl, by decide +kernel⟩, rkSb_sheet⟩
set_option maxRecDepth 100000 in
theorem lkMo_sheet : lx_cok (127, 3, 8, rMo_sheet) := ⟨⟨sx_in 1128 (by decide +kernel) rfl, sx_in 1129 (by decide +kernel) rfl, sx_in 1130 (by decide +kernel) rfl, by decide +kernel⟩, rkMo_sheet⟩
set_option maxRecDepth 100000 in
theorem lkSb_drop : lx_cok (128, 1, 7, rSb_drop) := ⟨⟨sx_in 780 (by decide +kernel) rfl, sx_in 781 (by decide +kernel) rfl, sx_in 782 (by decide +kernel) rfl, by decide +kernel⟩, rkSb_drop⟩
set_option maxRecDepth 100000 in
theorem lkMo_drop : lx_cok (131, 1, 8, rMo_drop) := ⟨⟨sx_in 1132 (by decide +kernel) rfl, sx_in 1133 (by decide +kernel) rfl, sx_in 1134 (by decide +kernel) rfl, by decide +kernel⟩, rkMo_drop⟩
set_option maxRecDepth 100000 in
theorem lkSb_item : lx_cok (132, 4, 7, rSb_item) := ⟨⟨sx_in 784 (by decide +kernel) rfl, sx_in 785 (by decide +kernel) rfl, sx_in 786 (by decide +kernel) rfl, by decide +kernel⟩, rkSb_item⟩
set_option maxRecDepth 100000 in
theorem lkMo_item : lx_cok (136, 4, 8, rMo_item) := ⟨⟨sx_in 1136 (by decide +kernel) rfl, sx_in 1137 (by decide +kernel) rfl, sx_in 1138 (by decide +kernel) rfl, by decide +kernel⟩, rkMo_item⟩
set_option maxRecDepth 100000 in
theorem lkSb_film : lx_cok (137, 3, 7, rSb_film) := ⟨⟨sx_in 792 (by decide +kernel) rfl, sx_in 793 (by decide +kernel) rfl, sx_in 794 (by decide +kernel) rfl, by decide +kernel⟩, rkSb_film⟩
set_option maxRecDepth 100000 in
theorem lkMo_film : lx_cok (140, 3, 8, rMo_film) := ⟨⟨sx_in 1120 (by decide +kernel) rfl, sx_in 1121 (by decide +kernel) rfl, sx_in 1122 (by decide +kernel) rfl, by decide +kernel⟩, rkMo_film⟩
set_option maxRecDepth 100000 in
theorem lkSb_copy : lx_cok (141, 5, 7, rSb_copy) := ⟨⟨sx_in 796 (by decide +kernel) rfl, sx_in 797 (by decide +kernel) rfl, sx_in 798 (by decide +kernel) rfl, by decide +kernel⟩, rkSb_copy⟩
set_option maxRecDepth 100000 in
theorem lkMo_copy : lx_cok (145, 5, 8, rMo_copy) := ⟨⟨sx_in 1140 (by decide +kernel) rfl, sx_in 1141 (by decide +kernel) rfl, sx_in 1142 (by decide +kernel) rfl, by decide +kernel⟩, rkMo_copy⟩
set_option maxRecDepth 100000 in
theorem lk_long : Cond.constantLong R_law 44 4294967295 ∈ sx_T := sx_in 1144 (by decide +kernel) rfl
def lx_in (i : Int32) (L : Nat) : Prop := vp_in i L ∧ vp_in (i + 1) L ∧ vp_in (i + 2) L ∧ vp_in (i + 3) L ∧ vp_in (i + 4) L ∧ vp_in (i + 5) L
def cL0 : List sx_I := [(172, .aload_n 1, 1, 173), (173, .aload_n 0, 1, 174), (174, .iload_n 3, 1, 175), (175, .iconst 1, 1, 176), (176, .iadd, 1, 177), (177, .iaload, 1, 178), (178, .aload_n 0, 1, 179), (179, .iload_n 3, 1, 180), (180, .iconst 2, 1, 181), (181, .iadd, 1, 182), (182, .iaload, 1, 183), (183, .aload_n 0, 1, 184), (184, .iload_n 3, 1, 185), (185, .iconst 3, 1, 186), (186, .iadd, 1, 187), (187, .iaload, 1, 188), (188, .invokevirtual 13, 3, 191), (191, .aload_n 2, 1, 192), (192, .aload_n 0, 1, 193), (193, .iload_n 3, 1, 194), (194, .iconst 1, 1, 195), (195, .iadd, 1, 196), (196, .iaload, 1, 197), (197, .aload_n 0, 1, 198), (198, .iload_n 3, 1, 199), (199, .iconst 2, 1, 200), (200, .iadd, 1, 201), (201, .iaload, 1, 202), (202, .aload_n 0, 1, 203), (203, .iload_n 3, 1, 204), (204, .iconst 3, 1, 205), (205, .iadd, 1, 206), (206, .iaload, 1, 207), (207, .invokevirtual 17, 3, 210), (210, .if_icmp .eq 935, 3, 213), (213, .iconst 0, 1, 214), (214, .ireturn, 1, 215)]
set_option maxRecDepth 100000 in
theorem dL0 : sx_ok rLaw cL0 := by unfold sx_ok; decide +kernel
def cL1 : List sx_I := [(215, .aload_n 1, 1, 216), (216, .aload_n 0, 1, 217), (217, .iload_n 3, 1, 218), (218, .iconst 1, 1, 219), (219, .iadd, 1, 220), (220, .iaload, 1, 221), (221, .invokevirtual 18, 3, 224), (224, .aload_n 2, 1, 225), (225, .aload_n 0, 1, 226), (226, .iload_n 3, 1, 227), (227, .iconst 1, 1, 228), (228, .iadd, 1, 229), (229, .iaload, 1, 230), (230, .invokevirtual 22, 3, 233), (233, .if_icmp .eq 912, 3, 236), (236, .iconst 0, 1, 237), (237, .ireturn, 1, 238)]
set_option maxRecDepth 100000 in
theorem dL1 : sx_ok rLaw cL1 := by unfold sx_ok; decide +kernel
def cL2 : List sx_I := [(238, .aload_n 1, 1, 239), (239, .aload_n 0, 1, 240), (240, .iload_n 3, 1, 241), (241, .iconst 1, 1, 242), (242, .iadd, 1, 243), (243, .iaload, 1, 244), (244, .aload_n 0, 1, 245), (245, .iload_n 3, 1, 246), (246, .iconst 2, 1, 247), (247, .iadd, 1, 248), (248, .iaload, 1, 249), (249, .invokevirtual 23, 3, 252), (252, .aload_n 2, 1, 253), (253, .aload_n 0, 1, 254), (254, .iload_n 3, 1, 255), (255, .iconst 1, 1, 256), (256, .iadd, 1, 257), (257, .iaload, 1, 258), (258, .aload_n 0, 1, 259), (259, .iload_n 3, 1, 260), (260, .iconst 2, 1, 261), (261, .iadd, 1, 262), (262, .iaload, 1, 263), (263, .invokevirtual 27, 3, 266), (266, .if_icmp .eq 879, 3, 269), (269, .iconst 0, 1, 270), (270, .ireturn, 1, 271)]
set_option maxRecDepth 100000 in
theorem dL2 : sx_ok rLaw cL2 := by unfold sx_ok; decide +kernel
def cL3 : List sx_I := [(271, .aload_n 1, 1, 272), (272, .aload_n 0, 1, 273), (273, .iload_n 3, 1, 274), (274, .iconst 1, 1, 275), (275, .iadd, 1, 276), (276, .iaload, 1, 277), (277, .aload_n 0, 1, 278), (278, .iload_n 3, 1, 279), (279, .iconst 2, 1, 280), (280, .iadd, 1, 281), (281, .iaload, 1, 282), (282, .invokevirtual 28, 3, 285), (285, .aload_n 2, 1, 286), (286, .aload_n 0, 1, 287), (287, .iload_n 3, 1, 288), (288, .iconst 1, 1, 289), (289, .iadd, 1, 290), (290, .iaload, 1, 291), (291, .aload_n 0, 1, 292), (292, .iload_n 3, 1, 293), (293, .iconst 2, 1, 294), (294, .iadd, 1, 295), (295, .iaload, 1, 296), (296, .invokevirtual 31, 3, 299), (299, .if_icmp .eq 846, 3, 302), (302, .iconst 0, 1, 303), (303, .ireturn, 1, 304)]
set_option maxRecDepth 100000 in
theorem dL3 : sx_ok rLaw cL3 := by unfold sx_ok; decide +kernel
def cL4 : List sx_I := [(304, .aload_n 1, 1, 305), (305, .aload_n 0, 1, 306), (306, .iload_n 3, 1, 307), (307, .iconst 1, 1, 308), (308, .iadd, 1, 309), (309, .iaload, 1, 310), (310, .aload_n 0, 1, 311), (311, .iload_n 3, 1, 312), (312, .iconst 2, 1, 313), (313, .iadd, 1, 314), (314, .iaload, 1, 315), (315, .invokevirtual 32, 3, 318), (318, .aload_n 2, 1, 319), (319, .aload_n 0, 1, 320), (320, .iload_n 3, 1, 321), (321, .iconst 1, 1, 322), (322, .iadd, 1, 323), (323, .iaload, 1, 324), (324, .aload_n 0, 1, 325), (325, .iload_n 3, 1, 326), (326, .iconst 2, 1, 327), (327, .iadd, 1, 328), (328, .iaload, 1, 329), (329, .invokevirtual 35, 3, 332), (332, .if_icmp .eq 813, 3, 335), (335, .iconst 0, 1, 336), (336, .ireturn, 1, 337)]
set_option maxRecDepth 100000 in
theorem dL4 : sx_ok rLaw cL4 := by unfold sx_ok; decide +kernel
def cL5 : List sx_I := [(337, .aload_n 1, 1, 338), (338, .aload_n 0, 1, 339), (339, .iload_n 3, 1, 340), (340, .iconst 1, 1, 341), (341, .iadd, 1, 342), (342, .iaload, 1, 343), (343, .invokevirtual 36, 3, 346), (346, .aload_n 2, 1, 347), (347, .aload_n 0, 1, 348), (348, .iload_n 3, 1, 349), (349, .iconst 1, 1, 350), (350, .iadd, 1, 351), (351, .iaload, 1, 352), (352, .invokevirtual 39, 3, 355), (355, .if_icmp .eq 790, 3, 358), (358, .iconst 0, 1, 359), (359, .ireturn, 1, 360)]
set_option maxRecDepth 100000 in
theorem dL5 : sx_ok rLaw cL5 := by unfold sx_ok; decide +kernel
def cL6 : List sx_I := [(360, .aload_n 1, 1, 361), (361, .aload_n 0, 1, 362), (362, .iload_n 3, 1, 363), (363, .iconst 1, 1, 364), (364, .iadd, 1, 365), (365, .iaload, 1, 366), (366, .invokevirtual 40, 3, 369), (369, .aload_n 2, 1, 370), (370, .aload_n 0, 1, 371), (371, .iload_n 3, 1, 372), (372, .iconst 1, 1, 373), (373, .iadd, 1, 374), (374, .iaload, 1, 375), (375, .invokevirtual 43, 3, 378), (378, .if_icmp .eq 767, 3, 381), (381, .iconst 0, 1, 382), (382, .ireturn, 1, 383)]
set_option maxRecDepth 100000 in
theorem dL6 : sx_ok rLaw cL6 := by unfold sx_ok; decide +kernel
def cL7 : List sx_I := [(383, .aload_n 1, 1, 384), (384, .aload_n 0, 1, 385), (385, .iload_n 3, 1, 386), (386, .iconst 1, 1, 387), (387, .iadd, 1, 388), (388, .iaload, 1, 389), (389, .i2l, 1, 390), (390, .bipush 32, 2, 392), (392, .lshl, 1, 393), (393, .aload_n 0, 1, 394), (394, .iload_n 3, 1, 395), (395, .iconst 2, 1, 396), (396, .iadd, 1, 397), (397, .iaload, 1, 398), (398, .i2l, 1, 399), (399, .ldc2_w 44, 3, 402), (402, .land, 1, 403), (403, .lor, 1, 404), (404, .aload_n 0, 1, 405), (405, .iload_n 3, 1, 406), (406, .iconst 3, 1, 407), (407, .iadd, 1, 408), (408, .iaload, 1, 409), (409, .invokevirtual 46, 3, 412), (412, .aload_n 2, 1, 413), (413, .aload_n 0, 1, 414), (414, .iload_n 3, 1, 415), (415, .iconst 1, 1, 416), (416, .iadd, 1, 417), (417, .iaload, 1, 418), (418, .i2l, 1, 419), (419, .bipush 32, 2, 421), (421, .lshl, 1, 422), (422, .aload_n 0, 1, 423), (423, .iload_n 3, 1, 424), (424, .iconst 2, 1, 425), (425, .iadd, 1, 426), (426, .iaload, 1, 427), (427, .i2l, 1, 428), (428, .ldc2_w 44, 3, 431), (431, .land, 1, 432), (432, .lor, 1, 433), (433, .aload_n 0, 1, 434), (434, .iload_n 3, 1, 435), (435, .iconst 3, 1, 436), (436, .iadd, 1, 437), (437, .iaload, 1, 438), (438, .invokevirtual 50, 3, 441), (441, .if_icmp .eq 704, 3, 444), (444, .iconst 0, 1, 445), (445, .ireturn, 1, 446)]
set_option maxRecDepth 100000 in
theorem dL7 : sx_ok rLaw cL7 := by unfold sx_ok; decide +kernel
def cL8 : List sx_I := [(446, .aload_n 1, 1, 447), (447, .invokevirtual 51, 3, 450), (450, .aload_n 2, 1, 451), (451, .invokevirtual 55, 3, 454), (454, .if_icmp .eq 691, 3, 457), (457, .iconst 0, 1, 458), (458, .ireturn, 1, 459)]
set_option maxRecDepth 100000 in
theorem dL8 : sx_ok rLaw cL8 := by unfold sx_ok; decide +kernel
def cL9 : List sx_I := [(459, .aload_n 1, 1, 460), (460, .aload_n 0, 1, 461), (461, .iload_n 3, 1, 462), (462, .iconst 1, 1, 463), (463, .iadd, 1, 464), (464, .iaload, 1, 465), (465, .invokevirtual 56, 3, 468), (468, .aload_n 2, 1, 469), (469, .aload_n 0, 1, 470), (470, .iload_n 3, 1, 471), (471, .iconst 1, 1, 472), (472, .iadd, 1, 473), (473, .iaload, 1, 474), (474, .invokevirtual 59, 3, 477), (477, .if_icmp .eq 668, 3, 480), (480, .iconst 0, 1, 481), (481, .ireturn, 1, 482)]
set_option maxRecDepth 100000 in
theorem dL9 : sx_ok rLaw cL9 := by unfold sx_ok; decide +kernel
def cL10 : List sx_I := [(482, .aload_n 1, 1, 483), (483, .aload_n 0, 1, 484), (484, .iload_n 3, 1, 485), (485, .iconst 1, 1, 486), (486, .iadd, 1, 487), (487, .iaload, 1, 488), (488, .invokevirtual 60, 3, 491), (491, .aload_n 2, 1, 492), (492, .aload_n 0, 1, 493), (493, .iload_n 3, 1, 494), (494, .iconst 1, 1, 495), (495, .iadd, 1, 496), (496, .iaload, 1, 497), (497, .invokevirtual 63, 3, 500), (500, .if_icmp .eq 645, 3, 503), (503, .iconst 0, 1, 504), (504, .ireturn, 1, 505)]
set_option maxRecDepth 100000 in
theorem dL10 : sx_ok rLaw cL10 := by unfold sx_ok; decide +kernel
def cL11 : List sx_I := [(505, .aload_n 1, 1, 506), (506, .invokevirtual 64, 3, 509), (509, .aload_n 2, 1, 510), (510, .invokevirtual 67, 3, 513), (513, .if_icmp .eq 632, 3, 516), (516, .iconst 0, 1, 517), (517, .ireturn, 1, 518)]
set_option maxRecDepth 100000 in
theorem dL11 : sx_ok rLaw cL11 := by unfold sx_ok; decide +kernel
def cL12 : List sx_I := [(518, .aload_n 1, 1, 519), (519, .invokevirtual 68, 3, 522), (522, .aload_n 2, 1, 523), (523, .invokevirtual 71, 3, 526), (526, .if_icmp .eq 619, 3, 529), (529, .iconst 0, 1, 530), (530, .ireturn, 1, 531)]
set_option maxRecDepth 100000 in
theorem dL12 : sx_ok rLaw cL12 := by unfold sx_ok; decide +kernel
def cL13 : List sx_I := [(531, .aload_n 1, 1, 532), (532, .invokevirtual 72, 3, 535), (535, .aload_n 2, 1, 536), (536, .invokevirtual 75, 3, 539), (539, .if_icmp .eq 606, 3, 542), (542, .iconst 0, 1, 543), (543, .ireturn, 1, 544)]
set_option maxRecDepth 100000 in
theorem dL13 : sx_ok rLaw cL13 := by unfold sx_ok; decide +kernel
def cL14 : List sx_I := [(544, .aload_n 1, 1, 545), (545, .aload_n 0, 1, 546), (546, .iload_n 3, 1, 547), (547, .iconst 1, 1, 548), (548, .iadd, 1, 549), (549, .iaload, 1, 550), (550, .aload_n 0, 1, 551), (551, .iload_n 3, 1, 552), (552, .iconst 2, 1, 553), (553, .iadd, 1, 554), (554, .iaload, 1, 555), (555, .invokevirtual 76, 3, 558), (558, .aload_n 2, 1, 559), (559, .aload_n 0, 1, 560), (560, .iload_n 3, 1, 561), (561, .iconst 1, 1, 562), (562, .iadd, 1, 563), (563, .iaload, 1, 564), (564, .aload_n 0, 1, 565), (565, .iload_n 3, 1, 566), (566, .iconst 2, 1, 567), (567, .iadd, 1, 568), (568, .iaload, 1, 569), (569, .invokevirtual 79, 3, 572), (572, .if_icmp .eq 573, 3, 575), (575, .iconst 0, 1, 576), (576, .ireturn, 1, 577)]
set_option maxRecDepth 100000 in
theorem dL14 : sx_ok rLaw cL14 := by unfold sx_ok; decide +kernel
def cL15 : List sx_I := [(577, .aload_n 1, 1, 578), (578, .aload_n 0, 1, 579), (579, .iload_n 3, 1, 580), (580, .iconst 1, 1, 581), (581, .iadd, 1, 582), (582, .iaload, 1, 583), (583, .invokevirtual 80, 3, 586), (586, .aload_n 2, 1, 587), (587, .aload_n 0, 1, 588), (588, .iload_n 3, 1, 589), (589, .iconst 1, 1, 590), (590, .iadd, 1, 591), (591, .iaload, 1, 592), (592, .invokevirtual 83, 3, 595), (595, .if_icmp .eq 550, 3, 598), (598, .iconst 0, 1, 599), (599, .ireturn, 1, 600)]
set_option maxRecDepth 100000 in
theorem dL15 : sx_ok rLaw cL15 := by unfold sx_ok; decide +kernel
def cL16 : List sx_I := [(600, .aload_n 1, 1, 601), (601, .aload_n 0, 1, 602), (602, .iload_n 3, 1, 603), (603, .iconst 1, 1, 604), (604, .iadd, 1, 605), (605, .iaload, 1, 606), (606, .invokevirtual 84, 3, 609), (609, .aload_n 2, 1, 610), (610, .aload_n 0, 1, 611), (611, .iload_n 3, 1, 612), (612, .iconst 1, 1, 613), (613, .iadd, 1, 614), (614, .iaload, 1, 615), (615, .invokevirtual 87, 3, 618), (618, .if_icmp .eq 527, 3, 621), (621, .iconst 0, 1, 622), (622, .ireturn, 1, 623)]
set_option maxRecDepth 100000 in
theorem dL16 : sx_ok rLaw cL16 := by unfold sx_ok; decide +kernel
def cL17 : List sx_I := [(623, .aload_n 1, 1, 624), (624, .aload_n 0, 1, 625), (625, .iload_n 3, 1, 626), (626, .iconst 1, 1, 627), (627, .iadd, 1, 628), (628, .iaload, 1, 629), (629, .aload_n 0, 1, 630), (630, .iload_n 3, 1, 631), (631, .iconst 2, 1, 632), (632, .iadd, 1, 633), (633, .iaload, 1, 634), (634, .invokevirtual 88, 3, 637), (637, .aload_n 2, 1, 638), (638, .aload_n 0, 1, 639), (639, .iload_n 3, 1, 640), (640, .iconst 1, 1, 641), (641, .iadd, 1, 642), (642, .iaload, 1, 643), (643, .aload_n 0, 1, 644), (644, .iload_n 3, 1, 645), (645, .iconst 2, 1, 646), (646, .iadd, 1, 647), (647, .iaload, 1, 648), (648, .invokevirtual 91, 3, 651), (651, .if_icmp .eq 494, 3, 654), (654, .iconst 0, 1, 655), (655, .ireturn, 1, 656)]
set_option maxRecDepth 100000 in
theorem dL17 : sx_ok rLaw cL17 := by unfold sx_ok; decide +kernel
def cL18 : List sx_I := [(656, .aload_n 1, 1, 657), (657, .invokevirtual 92, 3, 660), (660, .aload_n 2, 1, 661), (661, .invokevirtual 95, 3, 664), (664, .if_icmp .eq 481, 3, 667), (667, .iconst 0, 1, 668), (668, .ireturn, 1, 669)]
set_option maxRecDepth 100000 in
theorem dL18 : sx_ok rLaw cL18 := by unfold sx_ok; decide +kernel
def cL19 : List sx_I := [(669, .aload_n 1, 1, 670), (670, .aload_n 0, 1, 671), (671, .iload_n 3, 1, 672), (672, .iconst 1, 1, 673), (673, .iadd, 1, 674), (674, .iaload, 1, 675), (675, .aload_n 0, 1, 676), (676, .iload_n 3, 1, 677), (677, .iconst 2, 1, 678), (678, .iadd, 1, 679), (679, .iaload, 1, 680), (680, .invokevirtual 96, 3, 683), (683, .aload_n 2, 1, 684), (684, .aload_n 0, 1, 685), (685, .iload_n 3, 1, 686), (686, .iconst 1, 1, 687), (687, .iadd, 1, 688), (688, .iaload, 1, 689), (689, .aload_n 0, 1, 690), (690, .iload_n 3, 1, 691), (691, .iconst 2, 1, 692), (692, .iadd, 1, 693), (693, .iaload, 1, 694), (694, .invokevirtual 99, 3, 697), (697, .if_icmp .eq 448, 3, 700), (700, .iconst 0, 1, 701), (701, .ireturn, 1, 702)]
set_option maxRecDepth 100000 in
theorem dL19 : sx_ok rLaw cL19 := by unfold sx_ok; decide +kernel
def cL20 : List sx_I := [(702, .aload_n 1, 1, 703), (703, .aload_n 0, 1, 704), (704, .iload_n 3, 1, 705), (705, .iconst 1, 1, 706), (706, .iadd, 1, 707), (707, .iaload, 1, 708), (708, .aload_n 0, 1, 709), (709, .iload_n 3, 1, 710), (710, .iconst 2, 1, 711), (711, .iadd, 1, 712), (712, .iaload, 1, 713), (713, .invokevirtual 100, 3, 716), (716, .aload_n 2, 1, 717), (717, .aload_n 0, 1, 718), (718, .iload_n 3, 1, 719), (719, .iconst 1, 1, 720), (720, .iadd, 1, 721), (721, .iaload, 1, 722), (722, .aload_n 0, 1, 723), (723, .iload_n 3, 1, 724), (724, .iconst 2, 1, 725), (725, .iadd, 1, 726), (726, .iaload, 1, 727), (727, .invokevirtual 103, 3, 730), (730, .if_icmp .eq 415, 3, 733), (733, .iconst 0, 1, 734), (734, .ireturn, 1, 735)]
set_option maxRecDepth 100000 in
theorem dL20 : sx_ok rLaw cL20 := by unfold sx_ok; decide +kernel
def cL21 : List sx_I := [(735, .aload_n 1, 1, 736), (736, .invokevirtual 104, 3, 739), (739, .aload_n 2, 1, 740), (740, .invokevirtual 107, 3, 743), (743, .if_icmp .eq 402, 3, 746), (746, .iconst 0, 1, 747), (747, .ireturn, 1, 748)]
set_option maxRecDepth 100000 in
theorem dL21 : sx_ok rLaw cL21 := by unfold sx_ok; decide +kernel
def cL22 : List sx_I := [(748, .aload_n 1, 1, 749), (749, .invokevirtual 108, 3, 752), (752, .aload_n 2, 1, 753), (753, .invokevirtual 111, 3, 756), (756, .if_icmp .eq 389, 3, 759), (759, .iconst 0, 1, 760), (760, .ireturn, 1, 761)]
set_option maxRecDepth 100000 in
theorem dL22 : sx_ok rLaw cL22 := by unfold sx_ok; decide +kernel
def cL23 : List sx_I := [(761, .aload_n 1, 1, 762), (762, .aload_n 0, 1, 763), (763, .iload_n 3, 1, 764), (764, .iconst 1, 1, 765), (765, .iadd, 1, 766), (766, .iaload, 1, 767), (767, .aload_n 0, 1, 768), (768, .iload_n 3, 1, 769), (769, .iconst 2, 1, 770), (770, .iadd, 1, 771), (771, .iaload, 1, 772), (772, .aload_n 0, 1, 773), (773, .iload_n 3, 1, 774), (774, .iconst 3, 1, 775), (775, .iadd, 1, 776), (776, .iaload, 1, 777), (777, .invokevirtual 112, 3, 780), (780, .aload_n 2, 1, 781), (781, .aload_n 0, 1, 782), (782, .iload_n 3, 1, 783), (783, .iconst 1, 1, 784), (784, .iadd, 1, 785), (785, .iaload, 1, 786), (786, .aload_n 0, 1, 787), (787, .iload_n 3, 1, 788), (788, .iconst 2, 1, 789), (789, .iadd, 1, 790), (790, .iaload, 1, 791), (791, .aload_n 0, 1, 792), (792, .iload_n 3, 1, 793), (793, .iconst 3, 1, 794), (794, .iadd, 1, 795), (795, .iaload, 1, 796), (796, .invokevirtual 115, 3, 799), (799, .if_icmp .eq 346, 3, 802), (802, .iconst 0, 1, 803), (803, .ireturn, 1, 804)]
set_option maxRecDepth 100000 in
theorem dL23 : sx_ok rLaw cL23 := by unfold sx_ok; decide +kernel
def cL24 : List sx_I := [(804, .aload_n 1, 1, 805), (805, .aload_n 0, 1, 806), (806, .iload_n 3, 1, 807), (807, .iconst 1, 1, 808), (808, .iadd, 1, 809), (809, .iaload, 1, 810), (810, .aload_n 0, 1, 811), (811, .iload_n 3, 1, 812), (812, .iconst 2, 1, 813), (813, .iadd, 1, 814), (814, .iaload, 1, 815), (815, .aload_n 0, 1, 816), (816, .iload_n 3, 1, 817), (817, .iconst 3, 1, 818), (818, .iadd, 1, 819), (819, .iaload, 1, 820), (820, .invokevirtual 116, 3, 823), (823, .aload_n 2, 1, 824), (824, .aload_n 0, 1, 825), (825, .iload_n 3, 1, 826), (826, .iconst 1, 1, 827), (827, .iadd, 1, 828), (828, .iaload, 1, 829), (829, .aload_n 0, 1, 830), (830, .iload_n 3, 1, 831), (831, .iconst 2, 1, 832), (832, .iadd, 1, 833), (833, .iaload, 1, 834), (834, .aload_n 0, 1, 835), (835, .iload_n 3, 1, 836), (836, .iconst 3, 1, 837), (837, .iadd, 1, 838), (838, .iaload, 1, 839), (839, .invokevirtual 119, 3, 842), (842, .if_icmp .eq 303, 3, 845), (845, .iconst 0, 1, 846), (846, .ireturn, 1, 847)]
set_option maxRecDepth 100000 in
theorem dL24 : sx_ok rLaw cL24 := by unfold sx_ok; decide +kernel
def cL25 : List sx_I := [(847, .aload_n 1, 1, 848), (848, .aload_n 0, 1, 849), (849, .iload_n 3, 1, 850), (850, .iconst 1, 1, 851), (851, .iadd, 1, 852), (852, .iaload, 1, 853), (853, .aload_n 0, 1, 854), (854, .iload_n 3, 1, 855), (855, .iconst 2, 1, 856), (856, .iadd, 1, 857), (857, .iaload, 1, 858), (858, .aload_n 0, 1, 859), (859, .iload_n 3, 1, 860), (860, .iconst 3, 1, 861), (861, .iadd, 1, 862), (862, .iaload, 1, 863), (863, .invokevirtual 120, 3, 866), (866, .aload_n 2, 1, 867), (867, .aload_n 0, 1, 868), (868, .iload_n 3, 1, 869), (869, .iconst 1, 1, 870), (870, .iadd, 1, 871), (871, .iaload, 1, 872), (872, .aload_n 0, 1, 873), (873, .iload_n 3, 1, 874), (874, .iconst 2, 1, 875), (875, .iadd, 1, 876), (876, .iaload, 1, 877), (877, .aload_n 0, 1, 878), (878, .iload_n 3, 1, 879), (879, .iconst 3, 1, 880), (880, .iadd, 1, 881), (881, .iaload, 1, 882), (882, .invokevirtual 123, 3, 885), (885, .if_icmp .eq 260, 3, 888), (888, .iconst 0, 1, 889), (889, .ireturn, 1, 890)]
set_option maxRecDepth 100000 in
theorem dL25 : sx_ok rLaw cL25 := by unfold sx_ok; decide +kernel
def cL26 : List sx_I := [(890, .aload_n 1, 1, 891), (891, .aload_n 0, 1, 892), (892, .iload_n 3, 1, 893), (893, .iconst 1, 1, 894), (894, .iadd, 1, 895), (895, .iaload, 1, 896), (896, .aload_n 0, 1, 897), (897, .iload_n 3, 1, 898), (898, .iconst 2, 1, 899), (899, .iadd, 1, 900), (900, .iaload, 1, 901), (901, .aload_n 0, 1, 902), (902, .iload_n 3, 1, 903), (903, .iconst 3, 1, 904), (904, .iadd, 1, 905), (905, .iaload, 1, 906), (906, .invokevirtual 124, 3, 909), (909, .aload_n 2, 1, 910), (910, .aload_n 0, 1, 911), (911, .iload_n 3, 1, 912), (912, .iconst 1, 1, 913), (913, .iadd, 1, 914), (914, .iaload, 1, 915), (915, .aload_n 0, 1, 916), (916, .iload_n 3, 1, 917), (917, .iconst 2, 1, 918), (918, .iadd, 1, 919), (919, .iaload, 1, 920), (920, .aload_n 0, 1, 921), (921, .iload_n 3, 1, 922), (922, .iconst 3, 1, 923), (923, .iadd, 1, 924), (924, .iaload, 1, 925), (925, .invokevirtual 127, 3, 928), (928, .if_icmp .eq 217, 3, 931), (931, .iconst 0, 1, 932), (932, .ireturn, 1, 933)]
set_option maxRecDepth 100000 in
theorem dL26 : sx_ok rLaw cL26 := by unfold sx_ok; decide +kernel
def cL27 : List sx_I := [(933, .aload_n 1, 1, 934), (934, .aload_n 0, 1, 935), (935, .iload_n 3, 1, 936), (936, .iconst 1, 1, 937), (937, .iadd, 1, 938), (938, .iaload, 1, 939), (939, .invokevirtual 128, 3, 942), (942, .aload_n 2, 1, 943), (943, .aload_n 0, 1, 944), (944, .iload_n 3, 1, 945), (945, .iconst 1, 1, 946), (946, .iadd, 1, 947), (947, .iaload, 1, 948), (948, .invokevirtual 131, 3, 951), (951, .if_icmp .eq 194, 3, 954), (954, .iconst 0, 1, 955), (955, .ireturn, 1, 956)]
set_option maxRecDepth 100000 in
theorem dL27 : sx_ok rLaw cL27 := by unfold sx_ok; decide +kernel
def cL28 : List sx_I := [(956, .aload_n 1, 1, 957), (957, .aload_n 0, 1, 958), (958, .iload_n 3, 1, 959), (959, .iconst 1, 1, 960), (960, .iadd, 1, 961), (961, .iaload, 1, 962), (962, .aload_n 0, 1, 963), (963, .iload_n 3, 1, 964), (964, .iconst 2, 1, 965), (965, .iadd, 1, 966), (966, .iaload, 1, 967), (967, .aload_n 0, 1, 968), (968, .iload_n 3, 1, 969), (969, .iconst 3, 1, 970), (970, .iadd, 1, 971), (971, .iaload, 1, 972), (972, .aload_n 0, 1, 973), (973, .iload_n 3, 1, 974), (974, .iconst 4, 1, 975), (975, .iadd, 1, 976), (976, .iaload, 1, 977), (977, .i2l, 1, 978), (978, .bipush 32, 2, 980), (980, .lshl, 1, 981), (981, .aload_n 0, 1, 982), (982, .iload_n 3, 1, 983), (983, .iconst 5, 1, 984), (984, .iadd, 1, 985), (985, .iaload, 1, 986), (986, .i2l, 1, 987), (987, .ldc2_w 44, 3, 990), (990, .land, 1, 991), (991, .lor, 1, 992), (992, .invokevirtual 132, 3, 995), (995, .aload_n 2, 1, 996), (996, .aload_n 0, 1, 997), (997, .iload_n 3, 1, 998), (998, .iconst 1, 1, 999), (999, .iadd, 1, 1000), (1000, .iaload, 1, 1001), (1001, .aload_n 0, 1, 1002), (1002, .iload_n 3, 1, 1003), (1003, .iconst 2, 1, 1004), (1004, .iadd, 1, 1005), (1005, .iaload, 1, 1006), (1006, .aload_n 0, 1, 1007), (1007, .iload_n 3, 1, 1008), (1008, .iconst 3, 1, 1009), (1009, .iadd, 1, 1010), (1010, .iaload, 1, 1011), (1011, .aload_n 0, 1, 1012), (1012, .iload_n 3, 1, 1013), (1013, .iconst 4, 1, 1014), (1014, .iadd, 1, 1015), (1015, .iaload, 1, 1016), (1016, .i2l, 1, 1017), (1017, .bipush 32, 2, 1019), (1019, .lshl, 1, 1020), (1020, .aload_n 0, 1, 1021), (1021, .iload_n 3, 1, 1022), (1022, .iconst 5, 1, 1023), (1023, .iadd, 1, 1024), (1024, .iaload, 1, 1025), (1025, .i2l, 1, 1026), (1026, .ldc2_w 44, 3, 1029), (1029, .land, 1, 1030), (1030, .lor, 1, 1031), (1031, .invokevirtual 136, 3, 1034), (1034, .if_icmp .eq 111, 3, 1037), (1037, .iconst 0, 1, 1038), (1038, .ireturn, 1, 1039)]
set_option maxRecDepth 100000 in
theorem dL28 : sx_ok rLaw cL28 := by unfold sx_ok; decide +kernel
def cL29 : List sx_I := [(1039, .aload_n 1, 1, 1040), (1040, .aload_n 0, 1, 1041), (1041, .iload_n 3, 1, 1042), (1042, .iconst 1, 1, 1043), (1043, .iadd, 1, 1044), (1044, .iaload, 1, 1045), (1045, .aload_n 0, 1, 1046), (1046, .iload_n 3, 1, 1047), (1047, .iconst 2, 1, 1048), (1048, .iadd, 1, 1049), (1049, .iaload, 1, 1050), (1050, .aload_n 0, 1, 1051), (1051, .iload_n 3, 1, 1052), (1052, .iconst 3, 1, 1053), (1053, .iadd, 1, 1054), (1054, .iaload, 1, 1055), (1055, .invokevirtual 137, 3, 1058), (1058, .aload_n 2, 1, 1059), (1059, .aload_n 0, 1, 1060), (1060, .iload_n 3, 1, 1061), (1061, .iconst 1, 1, 1062), (1062, .iadd, 1, 1063), (1063, .iaload, 1, 1064), (1064, .aload_n 0, 1, 1065), (1065, .iload_n 3, 1, 1066), (1066, .iconst 2, 1, 1067), (1067, .iadd, 1, 1068), (1068, .iaload, 1, 1069), (1069, .aload_n 0, 1, 1070), (1070, .iload_n 3, 1, 1071), (1071, .iconst 3, 1, 1072), (1072, .iadd, 1, 1073), (1073, .iaload, 1, 1074), (1074, .invokevirtual 140, 3, 1077), (1077, .if_icmp .eq 68, 3, 1080), (1080, .iconst 0, 1, 1081), (1081, .ireturn, 1, 1082)]
set_option maxRecDepth 100000 in
theorem dL29 : sx_ok rLaw cL29 := by unfold sx_ok; decide +kernel
def cL30 : List sx_I := [(1082, .aload_n 1, 1, 1083), (1083, .aload_n 0, 1, 1084), (1084, .iload_n 3, 1, 1085), (1085, .iconst 1, 1, 1086), (1086, .iadd, 1, 1087), (1087, .iaload, 1, 1088), (1088, .aload_n 0, 1, 1089), (1089, .iload_n 3, 1, 1090), (1090, .iconst 2, 1, 1091), (1091, .iadd, 1, 1092), (1092, .iaload, 1, 1093), (1093, .aload_n 0, 1, 1094), (1094, .iload_n 3, 1, 1095), (1095, .iconst 3, 1, 1096), (1096, .iadd, 1, 1097), (1097, .iaload, 1, 1098), (1098, .aload_n 0, 1, 1099), (1099, .iload_n 3, 1, 1100), (1100, .iconst 4, 1, 1101), (1101, .iadd, 1, 1102), (1102, .iaload, 1, 1103), (1103, .aload_n 0, 1, 1104), (1104, .iload_n 3, 1, 1105), (1105, .iconst 5, 1, 1106), (1106, .iadd, 1, 1107), (1107, .iaload, 1, 1108), (1108, .invokevirtual 141, 3, 1111), (1111, .aload_n 2, 1, 1112), (1112, .aload_n 0, 1, 1113), (1113, .iload_n 3, 1, 1114), (1114, .iconst 1, 1, 1115), (1115, .iadd, 1, 1116), (1116, .iaload, 1, 1117), (1117, .aload_n 0, 1, 1118), (1118, .iload_n 3, 1, 1119), (1119, .iconst 2, 1, 1120), (1120, .iadd, 1, 1121), (1121, .iaload, 1, 1122), (1122, .aload_n 0, 1, 1123), (1123, .iload_n 3, 1, 1124), (1124, .iconst 3, 1, 1125), (1125, .iadd, 1, 1126), (1126, .iaload, 1, 1127), (1127, .aload_n 0, 1, 1128), (1128, .iload_n 3, 1, 1129), (1129, .iconst 4, 1, 1130), (1130, .iadd, 1, 1131), (1131, .iaload, 1, 1132), (1132, .aload_n 0, 1, 1133), (1133, .iload_n 3, 1, 1134), (1134, .iconst 5, 1, 1135), (1135, .iadd, 1, 1136), (1136, .iaload, 1, 1137), (1137, .invokevirtual 145, 3, 1140), (1140, .if_icmp .eq 5, 3, 1143), (1143, .iconst 0, 1, 1144), (1144, .ireturn, 1, 1145)]
set_option maxRecDepth 100000 in
theorem dL30 : sx_ok rLaw cL30 := by unfold sx_ok; decide +kernel
section
variable {b L A : Nat} {xs : Nat → Int32} {i : Int32} {w : sx_W}
theorem lc_0 (h : lx_in i L) (hA : A < 100000) (hR : sa_R A w) (k : ∀ w2, sa_R (A + 8) w2 → lx_ev b L xs i 1145 [] w2) : lx_ev b L xs i 172 [] w := by
  refine lx_two (st_lodger (xs (i + 1).toNatClampNeg) (xs (i + 2).toNatClampNeg) (xs (i + 3).toNatClampNeg)) hA hR (fun f w1 w2 m1 m2 k => ?_) k
  refine lx_x (dL0.at 0 rfl) ?_
  refine lx_arg (v := (1 : Int32)) (dL0.at 1 rfl) (dL0.at 2 rfl) (dL0.at 3 rfl) (dL0.at 4 rfl) (dL0.at 5 rfl) (by decide) h.2.1 ?_
  refine lx_arg (v := (2 : Int32)) (dL0.at 6 rfl) (dL0.at 7 rfl) (dL0.at 8 rfl) (dL0.at 9 rfl) (dL0.at 10 rfl) (by decide) h.2.2.1 ?_
  refine lx_arg (v := (3 : Int32)) (dL0.at 11 rfl) (dL0.at 12 rfl) (dL0.at 13 rfl) (dL0.at 14 rfl) (dL0.at 15 rfl) (by decide) h.2.2.2.1 ?_
  refine lx_call (As := [.int (xs (i + 1).toNatClampNeg), .int (xs (i + 2).toNatClampNeg), .int (xs (i + 3).toNatClampNeg)]) (dL0.at 16 rfl) lkSb_lodger rfl rfl rfl (Nat.le_of_ble_eq_true rfl) rfl m1 ?_
  refine lx_m (dL0.at 17 rfl) ?_
  refine lx_arg (v := (1 : Int32)) (dL0.at 18 rfl) (dL0.at 19 rfl) (dL0.at 20 rfl) (dL0.at 21 rfl) (dL0.at 22 rfl) (by decide) h.2.1 ?_
  refine lx_arg (v := (2 : Int32)) (dL0.at 23 rfl) (dL0.at 24 rfl) (dL0.at 25 rfl) (dL0.at 26 rfl) (dL0.at 27 rfl) (by decide) h.2.2.1 ?_
  refine lx_arg (v := (3 : Int32)) (dL0.at 28 rfl) (dL0.at 29 rfl) (dL0.at 30 rfl) (dL0.at 31 rfl) (dL0.at 32 rfl) (by decide) h.2.2.2.1 ?_
  refine lx_call (As := [.int (xs (i + 1).toNatClampNeg), .int (xs (i + 2).toNatClampNeg), .int (xs (i + 3).toNatClampNeg)]) (dL0.at 33 rfl) lkMo_lodger rfl rfl rfl (Nat.le_of_ble_eq_true rfl) rfl m2 ?_
  exact lx_eq (tgt := 1145) (dL0.at 34 rfl) rfl k
theorem lc_1 (h : lx_in i L) (hA : A < 100000) (hR : sa_R A w) (k : ∀ w2, sa_R (A + 8) w2 → lx_ev b L xs i 1145 [] w2) : lx_ev b L xs i 215 [] w := by
  refine lx_two (st_leave (xs (i + 1).toNatClampNeg)) hA hR (fun f w1 w2 m1 m2 k => ?_) k
  refine lx_x (dL1.at 0 rfl) ?_
  refine lx_arg (v := (1 : Int32)) (dL1.at 1 rfl) (dL1.at 2 rfl) (dL1.at 3 rfl) (dL1.at 4 rfl) (dL1.at 5 rfl) (by decide) h.2.1 ?_
  refine lx_call (As := [.int (xs (i + 1).toNatClampNeg)]) (dL1.at 6 rfl) lkSb_leave rfl rfl rfl (Nat.le_of_ble_eq_true rfl) rfl m1 ?_
  refine lx_m (dL1.at 7 rfl) ?_
  refine lx_arg (v := (1 : Int32)) (dL1.at 8 rfl) (dL1.at 9 rfl) (dL1.at 10 rfl) (dL1.at 11 rfl) (dL1.at 12 rfl) (by decide) h.2.1 ?_
  refine lx_call (As := [.int (xs (i + 1).toNatClampNeg)]) (dL1.at 13 rfl) lkMo_leave rfl rfl rfl (Nat.le_of_ble_eq_true rfl) rfl m2 ?_
  exact lx_eq (tgt := 1145) (dL1.at 14 rfl) rfl k
theorem lc_2 (h : lx_in i L) (hA : A < 100000) (hR : sa_R A w) (k : ∀ w2, sa_R (A + 8) w2 → lx_ev b L xs i 1145 [] w2) : lx_ev b L xs i 238 [] w := by
  refine lx_two (st_told (xs (i + 1).toNatClampNeg) (xs (i + 2).toNatClampNeg)) hA hR (fun f w1 w2 m1 m2 k => ?_) k
  refine lx_x (dL2.at 0 rfl) ?_
  refine lx_arg (v := (1 : Int32)) (dL2.at 1 rfl) (dL2.at 2 rfl) (dL2.at 3 rfl) (dL2.at 4 rfl) (dL2.at 5 rfl) (by decide) h.2.1 ?_
  refine lx_arg (v := (2 : Int32)) (dL2.at 6 rfl) (dL2.at 7 rfl) (dL2.at 8 rfl) (dL2.at 9 rfl) (dL2.at 10 rfl) (by decide) h.2.2.1 ?_
  refine lx_call (As := [.int (xs (i + 1).toNatClampNeg), .int (xs (i + 2).toNatClampNeg)]) (dL2.at 11 rfl) lkSb_told rfl rfl rfl (Nat.le_of_ble_eq_true rfl) rfl m1 ?_
  refine lx_m (dL2.at 12 rfl) ?_
  refine lx_arg (v := (1 : Int32)) (dL2.at 13 rfl) (dL2.at 14 rfl) (dL2.at 15 rfl) (dL2.at 16 rfl) (dL2.at 17 rfl) (by decide) h.2.1 ?_
  refine lx_arg (v := (2 : Int32)) (dL2.at 18 rfl) (dL2.at 19 rfl) (dL2.at 20 rfl) (dL2.at 21 rfl) (dL2.at 22 rfl) (by decide) h.2.2.1 ?_
  refine lx_call (As := [.int (xs (i + 1).toNatClampNeg), .int (xs (i + 2).toNatClampNeg)]) (dL2.at 23 rfl) lkMo_told rfl rfl rfl (Nat.le_of_ble_eq_true rfl) rfl m2 ?_
  exact lx_eq (tgt := 1145) (dL2.at 24 rfl) rfl k
theorem lc_3 (h : lx_in i L) (hA : A < 100000) (hR : sa_R A w) (k : ∀ w2, sa_R (A + 8) w2 → lx_ev b L xs i 1145 [] w2) : lx_ev b L xs i 271 [] w := by
  refine lx_two (st_work (xs (i + 1).toNatClampNeg) (xs (i + 2).toNatClampNeg)) hA hR (fun f w1 w2 m1 m2 k => ?_) k
  refine lx_x (dL3.at 0 rfl) ?_
  refine lx_arg (v := (1 : Int32)) (dL3.at 1 rfl) (dL3.at 2 rfl) (dL3.at 3 rfl) (dL3.at 4 rfl) (dL3.at 5 rfl) (by decide) h.2.1 ?_
  refine lx_arg (v := (2 : Int32)) (dL3.at 6 rfl) (dL3.at 7 rfl) (dL3.at 8 rfl) (dL3.at 9 rfl) (dL3.at 10 rfl) (by decide) h.2.2.1 ?_
  refine lx_call (As := [.int (xs (i + 1).toNatClampNeg), .int (xs (i + 2).toNatClampNeg)]) (dL3.at 11 rfl) lkSb_work rfl rfl rfl (Nat.le_of_ble_eq_true rfl) rfl m1 ?_
  refine lx_m (dL3.at 12 rfl) ?_
  refine lx_arg (v := (1 : Int32)) (dL3.at 13 rfl) (dL3.at 14 rfl) (dL3.at 15 rfl) (dL3.at 16 rfl) (dL3.at 17 rfl) (by decide) h.2.1 ?_
  refine lx_arg (v := (2 : Int32)) (dL3.at 18 rfl) (dL3.at 19 rfl) (dL3.at 20 rfl) (dL3.at 21 rfl) (dL3.at 22 rfl) (by decide) h.2.2.1 ?_
  refine lx_call (As := [.int (xs (i + 1).toNatClampNeg), .int (xs (i + 2).toNatClampNeg)]) (dL3.at 23 rfl) lkMo_work rfl rfl rfl (Nat.le_of_ble_eq_true rfl) rfl m2 ?_
  exact lx_eq (tgt := 1145) (dL3.at 24 rfl) rfl k
theorem lc_4 (h : lx_in i L) (hA : A < 100000) (hR : sa_R A w) (k : ∀ w2, sa_R (A + 8) w2 → lx_ev b L xs i 1145 [] w2) : lx_ev b L xs i 304 [] w := by
  refine lx_two (st_sleeps (xs (i + 1).toNatClampNeg) (xs (i + 2).toNatClampNeg)) hA hR (fun f w1 w2 m1 m2 k => ?_) k
  refine lx_x (dL4.at 0 rfl) ?_
  refine lx_arg (v := (1 : Int32)) (dL4.at 1 rfl) (dL4.at 2 rfl) (dL4.at 3 rfl) (dL4.at 4 rfl) (dL4.at 5 rfl) (by decide) h.2.1 ?_
  refine lx_arg (v := (2 : Int32)) (dL4.at 6 rfl) (dL4.at 7 rfl) (dL4.at 8 rfl) (dL4.at 9 rfl) (dL4.at 10 rfl) (by decide) h.2.2.1 ?_
  refine lx_call (As := [.int (xs (i + 1).toNatClampNeg), .int (xs (i + 2).toNatClampNeg)]) (dL4.at 11 rfl) lkSb_sleeps rfl rfl rfl (Nat.le_of_ble_eq_true rfl) rfl m1 ?_
  refine lx_m (dL4.at 12 rfl) ?_
  refine lx_arg (v := (1 : Int32)) (dL4.at 13 rfl) (dL4.at 14 rfl) (dL4.at 15 rfl) (dL4.at 16 rfl) (dL4.at 17 rfl) (by decide) h.2.1 ?_
  refine lx_arg (v := (2 : Int32)) (dL4.at 18 rfl) (dL4.at 19 rfl) (dL4.at 20 rfl) (dL4.at 21 rfl) (dL4.at 22 rfl) (by decide) h.2.2.1 ?_
  refine lx_call (As := [.int (xs (i + 1).toNatClampNeg), .int (xs (i + 2).toNatClampNeg)]) (dL4.at 23 rfl) lkMo_sleeps rfl rfl rfl (Nat.le_of_ble_eq_true rfl) rfl m2 ?_
  exact lx_eq (tgt := 1145) (dL4.at 24 rfl) rfl k
theorem lc_5 (h : lx_in i L) (hA : A < 100000) (hR : sa_R A w) (k : ∀ w2, sa_R (A + 8) w2 → lx_ev b L xs i 1145 [] w2) : lx_ev b L xs i 337 [] w := by
  refine lx_two (st_beds (xs (i + 1).toNatClampNeg)) hA hR (fun f w1 w2 m1 m2 k => ?_) k
  refine lx_x (dL5.at 0 rfl) ?_
  refine lx_arg (v := (1 : Int32)) (dL5.at 1 rfl) (dL5.at 2 rfl) (dL5.at 3 rfl) (dL5.at 4 rfl) (dL5.at 5 rfl) (by decide) h.2.1 ?_
  refine lx_call (As := [.int (xs (i + 1).toNatClampNeg)]) (dL5.at 6 rfl) lkSb_beds rfl rfl rfl (Nat.le_of_ble_eq_true rfl) rfl m1 ?_
  refine lx_m (dL5.at 7 rfl) ?_
  refine lx_arg (v := (1 : Int32)) (dL5.at 8 rfl) (dL5.at 9 rfl) (dL5.at 10 rfl) (dL5.at 11 rfl) (dL5.at 12 rfl) (by decide) h.2.1 ?_
  refine lx_call (As := [.int (xs (i + 1).toNatClampNeg)]) (dL5.at 13 rfl) lkMo_beds rfl rfl rfl (Nat.le_of_ble_eq_true rfl) rfl m2 ?_
  exact lx_eq (tgt := 1145) (dL5.at 14 rfl) rfl k
theorem lc_6 (h : lx_in i L) (hA : A < 100000) (hR : sa_R A w) (k : ∀ w2, sa_R (A + 8) w2 → lx_ev b L xs i 1145 [] w2) : lx_ev b L xs i 360 [] w := by
  refine lx_two (st_lasts (xs (i + 1).toNatClampNeg)) hA hR (fun f w1 w2 m1 m2 k => ?_) k
  refine lx_x (dL6.at 0 rfl) ?_
  refine lx_arg (v := (1 : Int32)) (dL6.at 1 rfl) (dL6.at 2 rfl) (dL6.at 3 rfl) (dL6.at 4 rfl) (dL6.at 5 rfl) (by decide) h.2.1 ?_
  refine lx_call (As := [.int (xs (i + 1).toNatClampNeg)]) (dL6.at 6 rfl) lkSb_lasts rfl rfl rfl (Nat.le_of_ble_eq_true rfl) rfl m1 ?_
  refine lx_m (dL6.at 7 rfl) ?_
  refine lx_arg (v := (1 : Int32)) (dL6.at 8 rfl) (dL6.at 9 rfl) (dL6.at 10 rfl) (dL6.at 11 rfl) (dL6.at 12 rfl) (by decide) h.2.1 ?_
  refine lx_call (As := [.int (xs (i + 1).toNatClampNeg)]) (dL6.at 13 rfl) lkMo_lasts rfl rfl rfl (Nat.le_of_ble_eq_true rfl) rfl m2 ?_
  exact lx_eq (tgt := 1145) (dL6.at 14 rfl) rfl k
theorem lc_7 (h : lx_in i L) (hA : A < 100000) (hR : sa_R A w) (k : ∀ w2, sa_R (A + 8) w2 → lx_ev b L xs i 1145 [] w2) : lx_ev b L xs i 383 [] w := by
  refine lx_two (st_type (lx_lg (xs (i + 1).toNatClampNeg) (xs (i + 2).toNatClampNeg)) (xs (i + 3).toNatClampNeg)) hA hR (fun f w1 w2 m1 m2 k => ?_) k
  refine lx_x (dL7.at 0 rfl) ?_
  refine lx_arg (v := (1 : Int32)) (dL7.at 1 rfl) (dL7.at 2 rfl) (dL7.at 3 rfl) (dL7.at 4 rfl) (dL7.at 5 rfl) (by decide) h.2.1 ?_
  refine lx_up (dL7.at 6 rfl) (dL7.at 7 rfl) (dL7.at 8 rfl) ?_
  refine lx_arg (v := (2 : Int32)) (dL7.at 9 rfl) (dL7.at 10 rfl) (dL7.at 11 rfl) (dL7.at 12 rfl) (dL7.at 13 rfl) (by decide) h.2.2.1 ?_
  refine lx_low (dL7.at 14 rfl) (dL7.at 15 rfl) (dL7.at 16 rfl) (dL7.at 17 rfl) lk_long ?_
  refine lx_arg (v := (3 : Int32)) (dL7.at 18 rfl) (dL7.at 19 rfl) (dL7.at 20 rfl) (dL7.at 21 rfl) (dL7.at 22 rfl) (by decide) h.2.2.2.1 ?_
  refine lx_call (As := [.long (lx_lg (xs (i + 1).toNatClampNeg) (xs (i + 2).toNatClampNeg)), .int (xs (i + 3).toNatClampNeg)]) (dL7.at 23 rfl) lkSb_type rfl rfl rfl (Nat.le_of_ble_eq_true rfl) rfl m1 ?_
  refine lx_m (dL7.at 24 rfl) ?_
  refine lx_arg (v := (1 : Int32)) (dL7.at 25 rfl) (dL7.at 26 rfl) (dL7.at 27 rfl) (dL7.at 28 rfl) (dL7.at 29 rfl) (by decide) h.2.1 ?_
  refine lx_up (dL7.at 30 rfl) (dL7.at 31 rfl) (dL7.at 32 rfl) ?_
  refine lx_arg (v := (2 : Int32)) (dL7.at 33 rfl) (dL7.at 34 rfl) (dL7.at 35 rfl) (dL7.at 36 rfl) (dL7.at 37 rfl) (by decide) h.2.2.1 ?_
  refine lx_low (dL7.at 38 rfl) (dL7.at 39 rfl) (dL7.at 40 rfl) (dL7.at 41 rfl) lk_long ?_
  refine lx_arg (v := (3 : Int32)) (dL7.at 42 rfl) (dL7.at 43 rfl) (dL7.at 44 rfl) (dL7.at 45 rfl) (dL7.at 46 rfl) (by decide) h.2.2.2.1 ?_
  refine lx_call (As := [.long (lx_lg (xs (i + 1).toNatClampNeg) (xs (i + 2).toNatClampNeg)), .int (xs (i + 3).toNatClampNeg)]) (dL7.at 47 rfl) lkMo_type rfl rfl rfl (Nat.le_of_ble_eq_true rfl) rfl m2 ?_
  exact lx_eq (tgt := 1145) (dL7.at 48 rfl) rfl k
theorem lc_8 (h : lx_in i L) (hA : A < 100000) (hR : sa_R A w) (k : ∀ w2, sa_R (A + 8) w2 → lx_ev b L xs i 1145 [] w2) : lx_ev b L xs i 446 [] w := by
  refine lx_two (st_lodging ) hA hR (fun f w1 w2 m1 m2 k => ?_) k
  refine lx_x (dL8.at 0 rfl) ?_
  refine lx_call (As := []) (dL8.at 1 rfl) lkSb_lodging rfl rfl rfl (Nat.le_of_ble_eq_true rfl) rfl m1 ?_
  refine lx_m (dL8.at 2 rfl) ?_
  refine lx_call (As := []) (dL8.at 3 rfl) lkMo_lodging rfl rfl rfl (Nat.le_of_ble_eq_true rfl) rfl m2 ?_
  exact lx_eq (tgt := 1145) (dL8.at 4 rfl) rfl k
theorem lc_9 (h : lx_in i L) (hA : A < 100000) (hR : sa_R A w) (k : ∀ w2, sa_R (A + 8) w2 → lx_ev b L xs i 1145 [] w2) : lx_ev b L xs i 459 [] w := by
  refine lx_two (st_count (xs (i + 1).toNatClampNeg)) hA hR (fun f w1 w2 m1 m2 k => ?_) k
  refine lx_x (dL9.at 0 rfl) ?_
  refine lx_arg (v := (1 : Int32)) (dL9.at 1 rfl) (dL9.at 2 rfl) (dL9.at 3 rfl) (dL9.at 4 rfl) (dL9.at 5 rfl) (by decide) h.2.1 ?_
  refine lx_call (As := [.int (xs (i + 1).toNatClampNeg)]) (dL9.at 6 rfl) lkSb_count rfl rfl rfl (Nat.le_of_ble_eq_true rfl) rfl m1 ?_
  refine lx_m (dL9.at 7 rfl) ?_
  refine lx_arg (v := (1 : Int32)) (dL9.at 8 rfl) (dL9.at 9 rfl) (dL9.at 10 rfl) (dL9.at 11 rfl) (dL9.at 12 rfl) (by decide) h.2.1 ?_
  refine lx_call (As := [.int (xs (i + 1).toNatClampNeg)]) (dL9.at 13 rfl) lkMo_count rfl rfl rfl (Nat.le_of_ble_eq_true rfl) rfl m2 ?_
  exact lx_eq (tgt := 1145) (dL9.at 14 rfl) rfl k
theorem lc_10 (h : lx_in i L) (hA : A < 100000) (hR : sa_R A w) (k : ∀ w2, sa_R (A + 8) w2 → lx_ev b L xs i 1145 [] w2) : lx_ev b L xs i 482 [] w := by
  refine lx_two (st_first (xs (i + 1).toNatClampNeg)) hA hR (fun f w1 w2 m1 m2 k => ?_) k
  refine lx_x (dL10.at 0 rfl) ?_
  refine lx_arg (v := (1 : Int32)) (dL10.at 1 rfl) (dL10.at 2 rfl) (dL10.at 3 rfl) (dL10.at 4 rfl) (dL10.at 5 rfl) (by decide) h.2.1 ?_
  refine lx_call (As := [.int (xs (i + 1).toNatClampNeg)]) (dL10.at 6 rfl) lkSb_first rfl rfl rfl (Nat.le_of_ble_eq_true rfl) rfl m1 ?_
  refine lx_m (dL10.at 7 rfl) ?_
  refine lx_arg (v := (1 : Int32)) (dL10.at 8 rfl) (dL10.at 9 rfl) (dL10.at 10 rfl) (dL10.at 11 rfl) (dL10.at 12 rfl) (by decide) h.2.1 ?_
  refine lx_call (As := [.int (xs (i + 1).toNatClampNeg)]) (dL10.at 13 rfl) lkMo_first rfl rfl rfl (Nat.le_of_ble_eq_true rfl) rfl m2 ?_
  exact lx_eq (tgt := 1145) (dL10.at 14 rfl) rfl k
theorem lc_11 (h : lx_in i L) (hA : A < 100000) (hR : sa_R A w) (k : ∀ w2, sa_R (A + 8) w2 → lx_ev b L xs i 1145 [] w2) : lx_ev b L xs i 505 [] w := by
  refine lx_two (st_ways ) hA hR (fun f w1 w2 m1 m2 k => ?_) k
  refine lx_x (dL11.at 0 rfl) ?_
  refine lx_call (As := []) (dL11.at 1 rfl) lkSb_ways rfl rfl rfl (Nat.le_of_ble_eq_true rfl) rfl m1 ?_
  refine lx_m (dL11.at 2 rfl) ?_
  refine lx_call (As := []) (dL11.at 3 rfl) lkMo_ways rfl rfl rfl (Nat.le_of_ble_eq_true rfl) rfl m2 ?_
  exact lx_eq (tgt := 1145) (dL11.at 4 rfl) rfl k
theorem lc_12 (h : lx_in i L) (hA : A < 100000) (hR : sa_R A w) (k : ∀ w2, sa_R (A + 8) w2 → lx_ev b L xs i 1145 [] w2) : lx_ev b L xs i 518 [] w := by
  refine lx_two (st_fewest ) hA hR (fun f w1 w2 m1 m2 k => ?_) k
  refine lx_x (dL12.at 0 rfl) ?_
  refine lx_call (As := []) (dL12.at 1 rfl) lkSb_fewest rfl rfl rfl (Nat.le_of_ble_eq_true rfl) rfl m1 ?_
  refine lx_m (dL12.at 2 rfl) ?_
  refine lx_call (As := []) (dL12.at 3 rfl) lkMo_fewest rfl rfl rfl (Nat.le_of_ble_eq_true rfl) rfl m2 ?_
  exact lx_eq (tgt := 1145) (dL12.at 4 rfl) rfl k
theorem lc_13 (h : lx_in i L) (hA : A < 100000) (hR : sa_R A w) (k : ∀ w2, sa_R (A + 8) w2 → lx_ev b L xs i 1145 [] w2) : lx_ev b L xs i 531 [] w := by
  refine lx_two (st_take ) hA hR (fun f w1 w2 m1 m2 k => ?_) k
  refine lx_x (dL13.at 0 rfl) ?_
  refine lx_call (As := []) (dL13.at 1 rfl) lkSb_take rfl rfl rfl (Nat.le_of_ble_eq_true rfl) rfl m1 ?_
  refine lx_m (dL13.at 2 rfl) ?_
  refine lx_call (As := []) (dL13.at 3 rfl) lkMo_take rfl rfl rfl (Nat.le_of_ble_eq_true rfl) rfl m2 ?_
  exact lx_eq (tgt := 1145) (dL13.at 4 rfl) rfl k
theorem lc_14 (h : lx_in i L) (hA : A < 100000) (hR : sa_R A w) (k : ∀ w2, sa_R (A + 8) w2 → lx_ev b L xs i 1145 [] w2) : lx_ev b L xs i 544 [] w := by
  refine lx_two (st_move (xs (i + 1).toNatClampNeg) (xs (i + 2).toNatClampNeg)) hA hR (fun f w1 w2 m1 m2 k => ?_) k
  refine lx_x (dL14.at 0 rfl) ?_
  refine lx_arg (v := (1 : Int32)) (dL14.at 1 rfl) (dL14.at 2 rfl) (dL14.at 3 rfl) (dL14.at 4 rfl) (dL14.at 5 rfl) (by decide) h.2.1 ?_
  refine lx_arg (v := (2 : Int32)) (dL14.at 6 rfl) (dL14.at 7 rfl) (dL14.at 8 rfl) (dL14.at 9 rfl) (dL14.at 10 rfl) (by decide) h.2.2.1 ?_
  refine lx_call (As := [.int (xs (i + 1).toNatClampNeg), .int (xs (i + 2).toNatClampNeg)]) (dL14.at 11 rfl) lkSb_move rfl rfl rfl (Nat.le_of_ble_eq_true rfl) rfl m1 ?_
  refine lx_m (dL14.at 12 rfl) ?_
  refine lx_arg (v := (1 : Int32)) (dL14.at 13 rfl) (dL14.at 14 rfl) (dL14.at 15 rfl) (dL14.at 16 rfl) (dL14.at 17 rfl) (by decide) h.2.1 ?_
  refine lx_arg (v := (2 : Int32)) (dL14.at 18 rfl) (dL14.at 19 rfl) (dL14.at 20 rfl) (dL14.at 21 rfl) (dL14.at 22 rfl) (by decide) h.2.2.1 ?_
  refine lx_call (As := [.int (xs (i + 1).toNatClampNeg), .int (xs (i + 2).toNatClampNeg)]) (dL14.at 23 rfl) lkMo_move rfl rfl rfl (Nat.le_of_ble_eq_true rfl) rfl m2 ?_
  exact lx_eq (tgt := 1145) (dL14.at 24 rfl) rfl k
theorem lc_15 (h : lx_in i L) (hA : A < 100000) (hR : sa_R A w) (k : ∀ w2, sa_R (A + 8) w2 → lx_ev b L xs i 1145 [] w2) : lx_ev b L xs i 577 [] w := by
  refine lx_two (st_mended (xs (i + 1).toNatClampNeg)) hA hR (fun f w1 w2 m1 m2 k => ?_) k
  refine lx_x (dL15.at 0 rfl) ?_
  refine lx_arg (v := (1 : Int32)) (dL15.at 1 rfl) (dL15.at 2 rfl) (dL15.at 3 rfl) (dL15.at 4 rfl) (dL15.at 5 rfl) (by decide) h.2.1 ?_
  refine lx_call (As := [.int (xs (i + 1).toNatClampNeg)]) (dL15.at 6 rfl) lkSb_mended rfl rfl rfl (Nat.le_of_ble_eq_true rfl) rfl m1 ?_
  refine lx_m (dL15.at 7 rfl) ?_
  refine lx_arg (v := (1 : Int32)) (dL15.at 8 rfl) (dL15.at 9 rfl) (dL15.at 10 rfl) (dL15.at 11 rfl) (dL15.at 12 rfl) (by decide) h.2.1 ?_
  refine lx_call (As := [.int (xs (i + 1).toNatClampNeg)]) (dL15.at 13 rfl) lkMo_mended rfl rfl rfl (Nat.le_of_ble_eq_true rfl) rfl m2 ?_
  exact lx_eq (tgt := 1145) (dL15.at 14 rfl) rfl k
theorem lc_16 (h : lx_in i L) (hA : A < 100000) (hR : sa_R A w) (k : ∀ w2, sa_R (A + 8) w2 → lx_ev b L xs i 1145 [] w2) : lx_ev b L xs i 600 [] w := by
  refine lx_two (st_rents (xs (i + 1).toNatClampNeg)) hA hR (fun f w1 w2 m1 m2 k => ?_) k
  refine lx_x (dL16.at 0 rfl) ?_
  refine lx_arg (v := (1 : Int32)) (dL16.at 1 rfl) (dL16.at 2 rfl) (dL16.at 3 rfl) (dL16.at 4 rfl) (dL16.at 5 rfl) (by decide) h.2.1 ?_
  refine lx_call (As := [.int (xs (i + 1).toNatClampNeg)]) (dL16.at 6 rfl) lkSb_rents rfl rfl rfl (Nat.le_of_ble_eq_true rfl) rfl m1 ?_
  refine lx_m (dL16.at 7 rfl) ?_
  refine lx_arg (v := (1 : Int32)) (dL16.at 8 rfl) (dL16.at 9 rfl) (dL16.at 10 rfl) (dL16.at 11 rfl) (dL16.at 12 rfl) (by decide) h.2.1 ?_
  refine lx_call (As := [.int (xs (i + 1).toNatClampNeg)]) (dL16.at 13 rfl) lkMo_rents rfl rfl rfl (Nat.le_of_ble_eq_true rfl) rfl m2 ?_
  exact lx_eq (tgt := 1145) (dL16.at 14 rfl) rfl k
theorem lc_17 (h : lx_in i L) (hA : A < 100000) (hR : sa_R A w) (k : ∀ w2, sa_R (A + 8) w2 → lx_ev b L xs i 1145 [] w2) : lx_ev b L xs i 623 [] w := by
  refine lx_two (st_bed (xs (i + 1).toNatClampNeg) (xs (i + 2).toNatClampNeg)) hA hR (fun f w1 w2 m1 m2 k => ?_) k
  refine lx_x (dL17.at 0 rfl) ?_
  refine lx_arg (v := (1 : Int32)) (dL17.at 1 rfl) (dL17.at 2 rfl) (dL17.at 3 rfl) (dL17.at 4 rfl) (dL17.at 5 rfl) (by decide) h.2.1 ?_
  refine lx_arg (v := (2 : Int32)) (dL17.at 6 rfl) (dL17.at 7 rfl) (dL17.at 8 rfl) (dL17.at 9 rfl) (dL17.at 10 rfl) (by decide) h.2.2.1 ?_
  refine lx_call (As := [.int (xs (i + 1).toNatClampNeg), .int (xs (i + 2).toNatClampNeg)]) (dL17.at 11 rfl) lkSb_bed rfl rfl rfl (Nat.le_of_ble_eq_true rfl) rfl m1 ?_
  refine lx_m (dL17.at 12 rfl) ?_
  refine lx_arg (v := (1 : Int32)) (dL17.at 13 rfl) (dL17.at 14 rfl) (dL17.at 15 rfl) (dL17.at 16 rfl) (dL17.at 17 rfl) (by decide) h.2.1 ?_
  refine lx_arg (v := (2 : Int32)) (dL17.at 18 rfl) (dL17.at 19 rfl) (dL17.at 20 rfl) (dL17.at 21 rfl) (dL17.at 22 rfl) (by decide) h.2.2.1 ?_
  refine lx_call (As := [.int (xs (i + 1).toNatClampNeg), .int (xs (i + 2).toNatClampNeg)]) (dL17.at 23 rfl) lkMo_bed rfl rfl rfl (Nat.le_of_ble_eq_true rfl) rfl m2 ?_
  exact lx_eq (tgt := 1145) (dL17.at 24 rfl) rfl k
theorem lc_18 (h : lx_in i L) (hA : A < 100000) (hR : sa_R A w) (k : ∀ w2, sa_R (A + 8) w2 → lx_ev b L xs i 1145 [] w2) : lx_ev b L xs i 656 [] w := by
  refine lx_two (st_linen ) hA hR (fun f w1 w2 m1 m2 k => ?_) k
  refine lx_x (dL18.at 0 rfl) ?_
  refine lx_call (As := []) (dL18.at 1 rfl) lkSb_linen rfl rfl rfl (Nat.le_of_ble_eq_true rfl) rfl m1 ?_
  refine lx_m (dL18.at 2 rfl) ?_
  refine lx_call (As := []) (dL18.at 3 rfl) lkMo_linen rfl rfl rfl (Nat.le_of_ble_eq_true rfl) rfl m2 ?_
  exact lx_eq (tgt := 1145) (dL18.at 4 rfl) rfl k
theorem lc_19 (h : lx_in i L) (hA : A < 100000) (hR : sa_R A w) (k : ∀ w2, sa_R (A + 8) w2 → lx_ev b L xs i 1145 [] w2) : lx_ev b L xs i 669 [] w := by
  refine lx_two (st_sick (xs (i + 1).toNatClampNeg) (xs (i + 2).toNatClampNeg)) hA hR (fun f w1 w2 m1 m2 k => ?_) k
  refine lx_x (dL19.at 0 rfl) ?_
  refine lx_arg (v := (1 : Int32)) (dL19.at 1 rfl) (dL19.at 2 rfl) (dL19.at 3 rfl) (dL19.at 4 rfl) (dL19.at 5 rfl) (by decide) h.2.1 ?_
  refine lx_arg (v := (2 : Int32)) (dL19.at 6 rfl) (dL19.at 7 rfl) (dL19.at 8 rfl) (dL19.at 9 rfl) (dL19.at 10 rfl) (by decide) h.2.2.1 ?_
  refine lx_call (As := [.int (xs (i + 1).toNatClampNeg), .int (xs (i + 2).toNatClampNeg)]) (dL19.at 11 rfl) lkSb_sick rfl rfl rfl (Nat.le_of_ble_eq_true rfl) rfl m1 ?_
  refine lx_m (dL19.at 12 rfl) ?_
  refine lx_arg (v := (1 : Int32)) (dL19.at 13 rfl) (dL19.at 14 rfl) (dL19.at 15 rfl) (dL19.at 16 rfl) (dL19.at 17 rfl) (by decide) h.2.1 ?_
  refine lx_arg (v := (2 : Int32)) (dL19.at 18 rfl) (dL19.at 19 rfl) (dL19.at 20 rfl) (dL19.at 21 rfl) (dL19.at 22 rfl) (by decide) h.2.2.1 ?_
  refine lx_call (As := [.int (xs (i + 1).toNatClampNeg), .int (xs (i + 2).toNatClampNeg)]) (dL19.at 23 rfl) lkMo_sick rfl rfl rfl (Nat.le_of_ble_eq_true rfl) rfl m2 ?_
  exact lx_eq (tgt := 1145) (dL19.at 24 rfl) rfl k
theorem lc_20 (h : lx_in i L) (hA : A < 100000) (hR : sa_R A w) (k : ∀ w2, sa_R (A + 8) w2 → lx_ev b L xs i 1145 [] w2) : lx_ev b L xs i 702 [] w := by
  refine lx_two (st_brought (xs (i + 1).toNatClampNeg) (xs (i + 2).toNatClampNeg)) hA hR (fun f w1 w2 m1 m2 k => ?_) k
  refine lx_x (dL20.at 0 rfl) ?_
  refine lx_arg (v := (1 : Int32)) (dL20.at 1 rfl) (dL20.at 2 rfl) (dL20.at 3 rfl) (dL20.at 4 rfl) (dL20.at 5 rfl) (by decide) h.2.1 ?_
  refine lx_arg (v := (2 : Int32)) (dL20.at 6 rfl) (dL20.at 7 rfl) (dL20.at 8 rfl) (dL20.at 9 rfl) (dL20.at 10 rfl) (by decide) h.2.2.1 ?_
  refine lx_call (As := [.int (xs (i + 1).toNatClampNeg), .int (xs (i + 2).toNatClampNeg)]) (dL20.at 11 rfl) lkSb_brought rfl rfl rfl (Nat.le_of_ble_eq_true rfl) rfl m1 ?_
  refine lx_m (dL20.at 12 rfl) ?_
  refine lx_arg (v := (1 : Int32)) (dL20.at 13 rfl) (dL20.at 14 rfl) (dL20.at 15 rfl) (dL20.at 16 rfl) (dL20.at 17 rfl) (by decide) h.2.1 ?_
  refine lx_arg (v := (2 : Int32)) (dL20.at 18 rfl) (dL20.at 19 rfl) (dL20.at 20 rfl) (dL20.at 21 rfl) (dL20.at 22 rfl) (by decide) h.2.2.1 ?_
  refine lx_call (As := [.int (xs (i + 1).toNatClampNeg), .int (xs (i + 2).toNatClampNeg)]) (dL20.at 23 rfl) lkMo_brought rfl rfl rfl (Nat.le_of_ble_eq_true rfl) rfl m2 ?_
  exact lx_eq (tgt := 1145) (dL20.at 24 rfl) rfl k
theorem lc_21 (h : lx_in i L) (hA : A < 100000) (hR : sa_R A w) (k : ∀ w2, sa_R (A + 8) w2 → lx_ev b L xs i 1145 [] w2) : lx_ev b L xs i 735 [] w := by
  refine lx_two (st_image ) hA hR (fun f w1 w2 m1 m2 k => ?_) k
  refine lx_x (dL21.at 0 rfl) ?_
  refine lx_call (As := []) (dL21.at 1 rfl) lkSb_image rfl rfl rfl (Nat.le_of_ble_eq_true rfl) rfl m1 ?_
  refine lx_m (dL21.at 2 rfl) ?_
  refine lx_call (As := []) (dL21.at 3 rfl) lkMo_image rfl rfl rfl (Nat.le_of_ble_eq_true rfl) rfl m2 ?_
  exact lx_eq (tgt := 1145) (dL21.at 4 rfl) rfl k
theorem lc_22 (h : lx_in i L) (hA : A < 100000) (hR : sa_R A w) (k : ∀ w2, sa_R (A + 8) w2 → lx_ev b L xs i 1145 [] w2) : lx_ev b L xs i 748 [] w := by
  refine lx_two (st_restore ) hA hR (fun f w1 w2 m1 m2 k => ?_) k
  refine lx_x (dL22.at 0 rfl) ?_
  refine lx_call (As := []) (dL22.at 1 rfl) lkSb_restore rfl rfl rfl (Nat.le_of_ble_eq_true rfl) rfl m1 ?_
  refine lx_m (dL22.at 2 rfl) ?_
  refine lx_call (As := []) (dL22.at 3 rfl) lkMo_restore rfl rfl rfl (Nat.le_of_ble_eq_true rfl) rfl m2 ?_
  exact lx_eq (tgt := 1145) (dL22.at 4 rfl) rfl k
theorem lc_23 (h : lx_in i L) (hA : A < 100000) (hR : sa_R A w) (k : ∀ w2, sa_R (A + 8) w2 → lx_ev b L xs i 1145 [] w2) : lx_ev b L xs i 761 [] w := by
  refine lx_two (st_lay (xs (i + 1).toNatClampNeg) (xs (i + 2).toNatClampNeg) (xs (i + 3).toNatClampNeg)) hA hR (fun f w1 w2 m1 m2 k => ?_) k
  refine lx_x (dL23.at 0 rfl) ?_
  refine lx_arg (v := (1 : Int32)) (dL23.at 1 rfl) (dL23.at 2 rfl) (dL23.at 3 rfl) (dL23.at 4 rfl) (dL23.at 5 rfl) (by decide) h.2.1 ?_
  refine lx_arg (v := (2 : Int32)) (dL23.at 6 rfl) (dL23.at 7 rfl) (dL23.at 8 rfl) (dL23.at 9 rfl) (dL23.at 10 rfl) (by decide) h.2.2.1 ?_
  refine lx_arg (v := (3 : Int32)) (dL23.at 11 rfl) (dL23.at 12 rfl) (dL23.at 13 rfl) (dL23.at 14 rfl) (dL23.at 15 rfl) (by decide) h.2.2.2.1 ?_
  refine lx_call (As := [.int (xs (i + 1).toNatClampNeg), .int (xs (i + 2).toNatClampNeg), .int (xs (i + 3).toNatClampNeg)]) (dL23.at 16 rfl) lkSb_lay rfl rfl rfl (Nat.le_of_ble_eq_true rfl) rfl m1 ?_
  refine lx_m (dL23.at 17 rfl) ?_
  refine lx_arg (v := (1 : Int32)) (dL23.at 18 rfl) (dL23.at 19 rfl) (dL23.at 20 rfl) (dL23.at 21 rfl) (dL23.at 22 rfl) (by decide) h.2.1 ?_
  refine lx_arg (v := (2 : Int32)) (dL23.at 23 rfl) (dL23.at 24 rfl) (dL23.at 25 rfl) (dL23.at 26 rfl) (dL23.at 27 rfl) (by decide) h.2.2.1 ?_
  refine lx_arg (v := (3 : Int32)) (dL23.at 28 rfl) (dL23.at 29 rfl) (dL23.at 30 rfl) (dL23.at 31 rfl) (dL23.at 32 rfl) (by decide) h.2.2.2.1 ?_
  refine lx_call (As := [.int (xs (i + 1).toNatClampNeg), .int (xs (i + 2).toNatClampNeg), .int (xs (i + 3).toNatClampNeg)]) (dL23.at 33 rfl) lkMo_lay rfl rfl rfl (Nat.le_of_ble_eq_true rfl) rfl m2 ?_
  exact lx_eq (tgt := 1145) (dL23.at 34 rfl) rfl k
theorem lc_24 (h : lx_in i L) (hA : A < 100000) (hR : sa_R A w) (k : ∀ w2, sa_R (A + 8) w2 → lx_ev b L xs i 1145 [] w2) : lx_ev b L xs i 804 [] w := by
  refine lx_two (st_judged (xs (i + 1).toNatClampNeg) (xs (i + 2).toNatClampNeg) (xs (i + 3).toNatClampNeg)) hA hR (fun f w1 w2 m1 m2 k => ?_) k
  refine lx_x (dL24.at 0 rfl) ?_
  refine lx_arg (v := (1 : Int32)) (dL24.at 1 rfl) (dL24.at 2 rfl) (dL24.at 3 rfl) (dL24.at 4 rfl) (dL24.at 5 rfl) (by decide) h.2.1 ?_
  refine lx_arg (v := (2 : Int32)) (dL24.at 6 rfl) (dL24.at 7 rfl) (dL24.at 8 rfl) (dL24.at 9 rfl) (dL24.at 10 rfl) (by decide) h.2.2.1 ?_
  refine lx_arg (v := (3 : Int32)) (dL24.at 11 rfl) (dL24.at 12 rfl) (dL24.at 13 rfl) (dL24.at 14 rfl) (dL24.at 15 rfl) (by decide) h.2.2.2.1 ?_
  refine lx_call (As := [.int (xs (i + 1).toNatClampNeg), .int (xs (i + 2).toNatClampNeg), .int (xs (i + 3).toNatClampNeg)]) (dL24.at 16 rfl) lkSb_judged rfl rfl rfl (Nat.le_of_ble_eq_true rfl) rfl m1 ?_
  refine lx_m (dL24.at 17 rfl) ?_
  refine lx_arg (v := (1 : Int32)) (dL24.at 18 rfl) (dL24.at 19 rfl) (dL24.at 20 rfl) (dL24.at 21 rfl) (dL24.at 22 rfl) (by decide) h.2.1 ?_
  refine lx_arg (v := (2 : Int32)) (dL24.at 23 rfl) (dL24.at 24 rfl) (dL24.at 25 rfl) (dL24.at 26 rfl) (dL24.at 27 rfl) (by decide) h.2.2.1 ?_
  refine lx_arg (v := (3 : Int32)) (dL24.at 28 rfl) (dL24.at 29 rfl) (dL24.at 30 rfl) (dL24.at 31 rfl) (dL24.at 32 rfl) (by decide) h.2.2.2.1 ?_
  refine lx_call (As := [.int (xs (i + 1).toNatClampNeg), .int (xs (i + 2).toNatClampNeg), .int (xs (i + 3).toNatClampNeg)]) (dL24.at 33 rfl) lkMo_judged rfl rfl rfl (Nat.le_of_ble_eq_true rfl) rfl m2 ?_
  exact lx_eq (tgt := 1145) (dL24.at 34 rfl) rfl k
theorem lc_25 (h : lx_in i L) (hA : A < 100000) (hR : sa_R A w) (k : ∀ w2, sa_R (A + 8) w2 → lx_ev b L xs i 1145 [] w2) : lx_ev b L xs i 847 [] w := by
  refine lx_two (st_clears (xs (i + 1).toNatClampNeg) (xs (i + 2).toNatClampNeg) (xs (i + 3).toNatClampNeg)) hA hR (fun f w1 w2 m1 m2 k => ?_) k
  refine lx_x (dL25.at 0 rfl) ?_
  refine lx_arg (v := (1 : Int32)) (dL25.at 1 rfl) (dL25.at 2 rfl) (dL25.at 3 rfl) (dL25.at 4 rfl) (dL25.at 5 rfl) (by decide) h.2.1 ?_
  refine lx_arg (v := (2 : Int32)) (dL25.at 6 rfl) (dL25.at 7 rfl) (dL25.at 8 rfl) (dL25.at 9 rfl) (dL25.at 10 rfl) (by decide) h.2.2.1 ?_
  refine lx_arg (v := (3 : Int32)) (dL25.at 11 rfl) (dL25.at 12 rfl) (dL25.at 13 rfl) (dL25.at 14 rfl) (dL25.at 15 rfl) (by decide) h.2.2.2.1 ?_
  refine lx_call (As := [.int (xs (i + 1).toNatClampNeg), .int (xs (i + 2).toNatClampNeg), .int (xs (i + 3).toNatClampNeg)]) (dL25.at 16 rfl) lkSb_clears rfl rfl rfl (Nat.le_of_ble_eq_true rfl) rfl m1 ?_
  refine lx_m (dL25.at 17 rfl) ?_
  refine lx_arg (v := (1 : Int32)) (dL25.at 18 rfl) (dL25.at 19 rfl) (dL25.at 20 rfl) (dL25.at 21 rfl) (dL25.at 22 rfl) (by decide) h.2.1 ?_
  refine lx_arg (v := (2 : Int32)) (dL25.at 23 rfl) (dL25.at 24 rfl) (dL25.at 25 rfl) (dL25.at 26 rfl) (dL25.at 27 rfl) (by decide) h.2.2.1 ?_
  refine lx_arg (v := (3 : Int32)) (dL25.at 28 rfl) (dL25.at 29 rfl) (dL25.at 30 rfl) (dL25.at 31 rfl) (dL25.at 32 rfl) (by decide) h.2.2.2.1 ?_
  refine lx_call (As := [.int (xs (i + 1).toNatClampNeg), .int (xs (i + 2).toNatClampNeg), .int (xs (i + 3).toNatClampNeg)]) (dL25.at 33 rfl) lkMo_clears rfl rfl rfl (Nat.le_of_ble_eq_true rfl) rfl m2 ?_
  exact lx_eq (tgt := 1145) (dL25.at 34 rfl) rfl k
theorem lc_26 (h : lx_in i L) (hA : A < 100000) (hR : sa_R A w) (k : ∀ w2, sa_R (A + 8) w2 → lx_ev b L xs i 1145 [] w2) : lx_ev b L xs i 890 [] w := by
  refine lx_two (st_sheet (xs (i + 1).toNatClampNeg) (xs (i + 2).toNatClampNeg) (xs (i + 3).toNatClampNeg)) hA hR (fun f w1 w2 m1 m2 k => ?_) k
  refine lx_x (dL26.at 0 rfl) ?_
  refine lx_arg (v := (1 : Int32)) (dL26.at 1 rfl) (dL26.at 2 rfl) (dL26.at 3 rfl) (dL26.at 4 rfl) (dL26.at 5 rfl) (by decide) h.2.1 ?_
  refine lx_arg (v := (2 : Int32)) (dL26.at 6 rfl) (dL26.at 7 rfl) (dL26.at 8 rfl) (dL26.at 9 rfl) (dL26.at 10 rfl) (by decide) h.2.2.1 ?_
  refine lx_arg (v := (3 : Int32)) (dL26.at 11 rfl) (dL26.at 12 rfl) (dL26.at 13 rfl) (dL26.at 14 rfl) (dL26.at 15 rfl) (by decide) h.2.2.2.1 ?_
  refine lx_call (As := [.int (xs (i + 1).toNatClampNeg), .int (xs (i + 2).toNatClampNeg), .int (xs (i + 3).toNatClampNeg)]) (dL26.at 16 rfl) lkSb_sheet rfl rfl rfl (Nat.le_of_ble_eq_true rfl) rfl m1 ?_
  refine lx_m (dL26.at 17 rfl) ?_
  refine lx_arg (v := (1 : Int32)) (dL26.at 18 rfl) (dL26.at 19 rfl) (dL26.at 20 rfl) (dL26.at 21 rfl) (dL26.at 22 rfl) (by decide) h.2.1 ?_
  refine lx_arg (v := (2 : Int32)) (dL26.at 23 rfl) (dL26.at 24 rfl) (dL26.at 25 rfl) (dL26.at 26 rfl) (dL26.at 27 rfl) (by decide) h.2.2.1 ?_
  refine lx_arg (v := (3 : Int32)) (dL26.at 28 rfl) (dL26.at 29 rfl) (dL26.at 30 rfl) (dL26.at 31 rfl) (dL26.at 32 rfl) (by decide) h.2.2.2.1 ?_
  refine lx_call (As := [.int (xs (i + 1).toNatClampNeg), .int (xs (i + 2).toNatClampNeg), .int (xs (i + 3).toNatClampNeg)]) (dL26.at 33 rfl) lkMo_sheet rfl rfl rfl (Nat.le_of_ble_eq_true rfl) rfl m2 ?_
  exact lx_eq (tgt := 1145) (dL26.at 34 rfl) rfl k
theorem lc_27 (h : lx_in i L) (hA : A < 100000) (hR : sa_R A w) (k : ∀ w2, sa_R (A + 8) w2 → lx_ev b L xs i 1145 [] w2) : lx_ev b L xs i 933 [] w := by
  refine lx_two (st_drop (xs (i + 1).toNatClampNeg)) hA hR (fun f w1 w2 m1 m2 k => ?_) k
  refine lx_x (dL27.at 0 rfl) ?_
  refine lx_arg (v := (1 : Int32)) (dL27.at 1 rfl) (dL27.at 2 rfl) (dL27.at 3 rfl) (dL27.at 4 rfl) (dL27.at 5 rfl) (by decide) h.2.1 ?_
  refine lx_call (As := [.int (xs (i + 1).toNatClampNeg)]) (dL27.at 6 rfl) lkSb_drop rfl rfl rfl (Nat.le_of_ble_eq_true rfl) rfl m1 ?_
  refine lx_m (dL27.at 7 rfl) ?_
  refine lx_arg (v := (1 : Int32)) (dL27.at 8 rfl) (dL27.at 9 rfl) (dL27.at 10 rfl) (dL27.at 11 rfl) (dL27.at 12 rfl) (by decide) h.2.1 ?_
  refine lx_call (As := [.int (xs (i + 1).toNatClampNeg)]) (dL27.at 13 rfl) lkMo_drop rfl rfl rfl (Nat.le_of_ble_eq_true rfl) rfl m2 ?_
  exact lx_eq (tgt := 1145) (dL27.at 14 rfl) rfl k
theorem lc_28 (h : lx_in i L) (hA : A < 100000) (hR : sa_R A w) (k : ∀ w2, sa_R (A + 8) w2 → lx_ev b L xs i 1145 [] w2) : lx_ev b L xs i 956 [] w := by
  refine lx_two (st_item (xs (i + 1).toNatClampNeg) (xs (i + 2).toNatClampNeg) (xs (i + 3).toNatClampNeg) (lx_lg (xs (i + 4).toNatClampNeg) (xs (i + 5).toNatClampNeg))) hA hR (fun f w1 w2 m1 m2 k => ?_) k
  refine lx_x (dL28.at 0 rfl) ?_
  refine lx_arg (v := (1 : Int32)) (dL28.at 1 rfl) (dL28.at 2 rfl) (dL28.at 3 rfl) (dL28.at 4 rfl) (dL28.at 5 rfl) (by decide) h.2.1 ?_
  refine lx_arg (v := (2 : Int32)) (dL28.at 6 rfl) (dL28.at 7 rfl) (dL28.at 8 rfl) (dL28.at 9 rfl) (dL28.at 10 rfl) (by decide) h.2.2.1 ?_
  refine lx_arg (v := (3 : Int32)) (dL28.at 11 rfl) (dL28.at 12 rfl) (dL28.at 13 rfl) (dL28.at 14 rfl) (dL28.at 15 rfl) (by decide) h.2.2.2.1 ?_
  refine lx_arg (v := (4 : Int32)) (dL28.at 16 rfl) (dL28.at 17 rfl) (dL28.at 18 rfl) (dL28.at 19 rfl) (dL28.at 20 rfl) (by decide) h.2.2.2.2.1 ?_
  refine lx_up (dL28.at 21 rfl) (dL28.at 22 rfl) (dL28.at 23 rfl) ?_
  refine lx_arg (v := (5 : Int32)) (dL28.at 24 rfl) (dL28.at 25 rfl) (dL28.at 26 rfl) (dL28.at 27 rfl) (dL28.at 28 rfl) (by decide) h.2.2.2.2.2 ?_
  refine lx_low (dL28.at 29 rfl) (dL28.at 30 rfl) (dL28.at 31 rfl) (dL28.at 32 rfl) lk_long ?_
  refine lx_call (As := [.int (xs (i + 1).toNatClampNeg), .int (xs (i + 2).toNatClampNeg), .int (xs (i + 3).toNatClampNeg), .long (lx_lg (xs (i + 4).toNatClampNeg) (xs (i + 5).toNatClampNeg))]) (dL28.at 33 rfl) lkSb_item rfl rfl rfl (Nat.le_of_ble_eq_true rfl) rfl m1 ?_
  refine lx_m (dL28.at 34 rfl) ?_
  refine lx_arg (v := (1 : Int32)) (dL28.at 35 rfl) (dL28.at 36 rfl) (dL28.at 37 rfl) (dL28.at 38 rfl) (dL28.at 39 rfl) (by decide) h.2.1 ?_
  refine lx_arg (v := (2 : Int32)) (dL28.at 40 rfl) (dL28.at 41 rfl) (dL28.at 42 rfl) (dL28.at 43 rfl) (dL28.at 44 rfl) (by decide) h.2.2.1 ?_
  refine lx_arg (v := (3 : Int32)) (dL28.at 45 rfl) (dL28.at 46 rfl) (dL28.at 47 rfl) (dL28.at 48 rfl) (dL28.at 49 rfl) (by decide) h.2.2.2.1 ?_
  refine lx_arg (v := (4 : Int32)) (dL28.at 50 rfl) (dL28.at 51 rfl) (dL28.at 52 rfl) (dL28.at 53 rfl) (dL28.at 54 rfl) (by decide) h.2.2.2.2.1 ?_
  refine lx_up (dL28.at 55 rfl) (dL28.at 56 rfl) (dL28.at 57 rfl) ?_
  refine lx_arg (v := (5 : Int32)) (dL28.at 58 rfl) (dL28.at 59 rfl) (dL28.at 60 rfl) (dL28.at 61 rfl) (dL28.at 62 rfl) (by decide) h.2.2.2.2.2 ?_
  refine lx_low (dL28.at 63 rfl) (dL28.at 64 rfl) (dL28.at 65 rfl) (dL28.at 66 rfl) lk_long ?_
  refine lx_call (As := [.int (xs (i + 1).toNatClampNeg), .int (xs (i + 2).toNatClampNeg), .int (xs (i + 3).toNatClampNeg), .long (lx_lg (xs (i + 4).toNatClampNeg) (xs (i + 5).toNatClampNeg))]) (dL28.at 67 rfl) lkMo_item rfl rfl rfl (Nat.le_of_ble_eq_true rfl) rfl m2 ?_
  exact lx_eq (tgt := 1145) (dL28.at 68 rfl) rfl k
theorem lc_29 (h : lx_in i L) (hA : A < 100000) (hR : sa_R A w) (k : ∀ w2, sa_R (A + 8) w2 → lx_ev b L xs i 1145 [] w2) : lx_ev b L xs i 1039 [] w := by
  refine lx_two (st_film (xs (i + 1).toNatClampNeg) (xs (i + 2).toNatClampNeg) (xs (i + 3).toNatClampNeg)) hA hR (fun f w1 w2 m1 m2 k => ?_) k
  refine lx_x (dL29.at 0 rfl) ?_
  refine lx_arg (v := (1 : Int32)) (dL29.at 1 rfl) (dL29.at 2 rfl) (dL29.at 3 rfl) (dL29.at 4 rfl) (dL29.at 5 rfl) (by decide) h.2.1 ?_
  refine lx_arg (v := (2 : Int32)) (dL29.at 6 rfl) (dL29.at 7 rfl) (dL29.at 8 rfl) (dL29.at 9 rfl) (dL29.at 10 rfl) (by decide) h.2.2.1 ?_
  refine lx_arg (v := (3 : Int32)) (dL29.at 11 rfl) (dL29.at 12 rfl) (dL29.at 13 rfl) (dL29.at 14 rfl) (dL29.at 15 rfl) (by decide) h.2.2.2.1 ?_
  refine lx_call (As := [.int (xs (i + 1).toNatClampNeg), .int (xs (i + 2).toNatClampNeg), .int (xs (i + 3).toNatClampNeg)]) (dL29.at 16 rfl) lkSb_film rfl rfl rfl (Nat.le_of_ble_eq_true rfl) rfl m1 ?_
  refine lx_m (dL29.at 17 rfl) ?_
  refine lx_arg (v := (1 : Int32)) (dL29.at 18 rfl) (dL29.at 19 rfl) (dL29.at 20 rfl) (dL29.at 21 rfl) (dL29.at 22 rfl) (by decide) h.2.1 ?_
  refine lx_arg (v := (2 : Int32)) (dL29.at 23 rfl) (dL29.at 24 rfl) (dL29.at 25 rfl) (dL29.at 26 rfl) (dL29.at 27 rfl) (by decide) h.2.2.1 ?_
  refine lx_arg (v := (3 : Int32)) (dL29.at 28 rfl) (dL29.at 29 rfl) (dL29.at 30 rfl) (dL29.at 31 rfl) (dL29.at 32 rfl) (by decide) h.2.2.2.1 ?_
  refine lx_call (As := [.int (xs (i + 1).toNatClampNeg), .int (xs (i + 2).toNatClampNeg), .int (xs (i + 3).toNatClampNeg)]) (dL29.at 33 rfl) lkMo_film rfl rfl rfl (Nat.le_of_ble_eq_true rfl) rfl m2 ?_
  exact lx_eq (tgt := 1145) (dL29.at 34 rfl) rfl k
theorem lc_30 (h : lx_in i L) (hA : A < 100000) (hR : sa_R A w) (k : ∀ w2, sa_R (A + 8) w2 → lx_ev b L xs i 1145 [] w2) : lx_ev b L xs i 1082 [] w := by
  refine lx_two (st_copy (xs (i + 1).toNatClampNeg) (xs (i + 2).toNatClampNeg) (xs (i + 3).toNatClampNeg) (xs (i + 4).toNatClampNeg) (xs (i + 5).toNatClampNeg)) hA hR (fun f w1 w2 m1 m2 k => ?_) k
  refine lx_x (dL30.at 0 rfl) ?_
  refine lx_arg (v := (1 : Int32)) (dL30.at 1 rfl) (dL30.at 2 rfl) (dL30.at 3 rfl) (dL30.at 4 rfl) (dL30.at 5 rfl) (by decide) h.2.1 ?_
  refine lx_arg (v := (2 : Int32)) (dL30.at 6 rfl) (dL30.at 7 rfl) (dL30.at 8 rfl) (dL30.at 9 rfl) (dL30.at 10 rfl) (by decide) h.2.2.1 ?_
  refine lx_arg (v := (3 : Int32)) (dL30.at 11 rfl) (dL30.at 12 rfl) (dL30.at 13 rfl) (dL30.at 14 rfl) (dL30.at 15 rfl) (by decide) h.2.2.2.1 ?_
  refine lx_arg (v := (4 : Int32)) (dL30.at 16 rfl) (dL30.at 17 rfl) (dL30.at 18 rfl) (dL30.at 19 rfl) (dL30.at 20 rfl) (by decide) h.2.2.2.2.1 ?_
  refine lx_arg (v := (5 : Int32)) (dL30.at 21 rfl) (dL30.at 22 rfl) (dL30.at 23 rfl) (dL30.at 24 rfl) (dL30.at 25 rfl) (by decide) h.2.2.2.2.2 ?_
  refine lx_call (As := [.int (xs (i + 1).toNatClampNeg), .int (xs (i + 2).toNatClampNeg), .int (xs (i + 3).toNatClampNeg), .int (xs (i + 4).toNatClampNeg), .int (xs (i + 5).toNatClampNeg)]) (dL30.at 26 rfl) lkSb_copy rfl rfl rfl (Nat.le_of_ble_eq_true rfl) rfl m1 ?_
  refine lx_m (dL30.at 27 rfl) ?_
  refine lx_arg (v := (1 : Int32)) (dL30.at 28 rfl) (dL30.at 29 rfl) (dL30.at 30 rfl) (dL30.at 31 rfl) (dL30.at 32 rfl) (by decide) h.2.1 ?_
  refine lx_arg (v := (2 : Int32)) (dL30.at 33 rfl) (dL30.at 34 rfl) (dL30.at 35 rfl) (dL30.at 36 rfl) (dL30.at 37 rfl) (by decide) h.2.2.1 ?_
  refine lx_arg (v := (3 : Int32)) (dL30.at 38 rfl) (dL30.at 39 rfl) (dL30.at 40 rfl) (dL30.at 41 rfl) (dL30.at 42 rfl) (by decide) h.2.2.2.1 ?_
  refine lx_arg (v := (4 : Int32)) (dL30.at 43 rfl) (dL30.at 44 rfl) (dL30.at 45 rfl) (dL30.at 46 rfl) (dL30.at 47 rfl) (by decide) h.2.2.2.2.1 ?_
  refine lx_arg (v := (5 : Int32)) (dL30.at 48 rfl) (dL30.at 49 rfl) (dL30.at 50 rfl) (dL30.at 51 rfl) (dL30.at 52 rfl) (by decide) h.2.2.2.2.2 ?_
  refine lx_call (As := [.int (xs (i + 1).toNatClampNeg), .int (xs (i + 2).toNatClampNeg), .int (xs (i + 3).toNatClampNeg), .int (xs (i + 4).toNatClampNeg), .int (xs (i + 5).toNatClampNeg)]) (dL30.at 53 rfl) lkMo_copy rfl rfl rfl (Nat.le_of_ble_eq_true rfl) rfl m2 ?_
  exact lx_eq (tgt := 1145) (dL30.at 54 rfl) rfl k
end
