theorem dX6_hit_13 : decode cX6_hit 13 = .ok (.iload 5, 2) := by decide +kernel
theorem dX6_hit_15 : decode cX6_hit 15 = .ok (.ifCond .lt 13, 3) := by decide +kernel
theorem dX6_hit_18 : decode cX6_hit 18 = .ok (.iload 5, 2) := by decide +kernel
theorem dX6_hit_20 : decode cX6_hit 20 = .ok (.aload_n 0, 1) := by decide +kernel
theorem dX6_hit_21 : decode cX6_hit 21 = .ok (.iload_n 1, 1) := by decide +kernel
theorem dX6_hit_22 : decode cX6_hit 22 = .ok (.invokevirtual 148, 3) := by decide +kernel
theorem dX6_hit_25 : decode cX6_hit 25 = .ok (.if_icmp .lt 9, 3) := by decide +kernel
theorem dX6_hit_28 : decode cX6_hit 28 = .ok (.aload_n 0, 1) := by decide +kernel
theorem dX6_hit_29 : decode cX6_hit 29 = .ok (.iconst 1, 1) := by decide +kernel
theorem dX6_hit_30 : decode cX6_hit 30 = .ok (.invokevirtual 131, 3) := by decide +kernel
theorem dX6_hit_33 : decode cX6_hit 33 = .ok (.ireturn, 1) := by decide +kernel
theorem dX6_hit_34 : decode cX6_hit 34 = .ok (.iload_n 2, 1) := by decide +kernel
theorem dX6_hit_35 : decode cX6_hit 35 = .ok (.invokestatic 151, 3) := by decide +kernel
theorem dX6_hit_38 : decode cX6_hit 38 = .ok (.ifCond .ne 9, 3) := by decide +kernel
theorem dX6_hit_41 : decode cX6_hit 41 = .ok (.aload_n 0, 1) := by decide +kernel
theorem dX6_hit_42 : decode cX6_hit 42 = .ok (.iconst 2, 1) := by decide +kernel
theorem dX6_hit_43 : decode cX6_hit 43 = .ok (.invokevirtual 131, 3) := by decide +kernel
theorem dX6_hit_46 : decode cX6_hit 46 = .ok (.ireturn, 1) := by decide +kernel
theorem dX6_hit_47 : decode cX6_hit 47 = .ok (.iconst 0, 1) := by decide +kernel
theorem dX6_hit_48 : decode cX6_hit 48 = .ok (.istore 6, 2) := by decide +kernel
theorem dX6_hit_50 : decode cX6_hit 50 = .ok (.aload_n 0, 1) := by decide +kernel
theorem dX6_hit_51 : decode cX6_hit 51 = .ok (.iload_n 1, 1) := by decide +kernel
theorem dX6_hit_52 : decode cX6_hit 52 = .ok (.iload 6, 2) := by decide +kernel
theorem dX6_hit_54 : decode cX6_hit 54 = .ok (.invokevirtual 100, 3) := by decide +kernel
theorem dX6_hit_57 : decode cX6_hit 57 = .ok (.ifCond .eq 17, 3) := by decide +kernel
theorem dX6_hit_60 : decode cX6_hit 60 = .ok (.aload_n 0, 1) := by decide +kernel
theorem dX6_hit_61 : decode cX6_hit 61 = .ok (.iload_n 1, 1) := by decide +kernel
theorem dX6_hit_62 : decode cX6_hit 62 = .ok (.iload 6, 2) := by decide +kernel
theorem dX6_hit_64 : decode cX6_hit 64 = .ok (.iload_n 2, 1) := by decide +kernel
theorem dX6_hit_65 : decode cX6_hit 65 = .ok (.lload_n 3, 1) := by decide +kernel
theorem dX6_hit_66 : decode cX6_hit 66 = .ok (.invokevirtual 154, 3) := by decide +kernel
theorem dX6_hit_69 : decode cX6_hit 69 = .ok (.iload 5, 2) := by decide +kernel
theorem dX6_hit_71 : decode cX6_hit 71 = .ok (.if_icmp .eq 9, 3) := by decide +kernel
theorem dX6_hit_74 : decode cX6_hit 74 = .ok (.iinc 6 1, 3) := by decide +kernel
theorem dX6_hit_77 : decode cX6_hit 77 = .ok (.goto (-27), 3) := by decide +kernel
theorem dX6_hit_80 : decode cX6_hit 80 = .ok (.iload 6, 2) := by decide +kernel
theorem dX6_hit_82 : decode cX6_hit 82 = .ok (.ireturn, 1) := by decide +kernel
set_option maxRecDepth 20000 in
theorem ggX6_place_X6_isView : GoodIn wsX6_place wsX6_isView := goodIn_r _ [7, 8, 38, 39, 40, 41, 42, 43, 44, 45, 46, 47, 48, 49, 50, 51, 52, 53, 54, 55, 56, 57, 58, 59, 60, 61, 62, 63, 64, 65, 66, 67] (by decide +kernel) (by decide +kernel)
set_option maxRecDepth 20000 in
theorem gX6_place_X6_isView : GoodIn wsX6_place (wsV RX6 137 RX6 yX6_isView wsX6_isView) := goodIn_app (goodIn_of _ (by decide +kernel)) ggX6_place_X6_isView
set_option maxRecDepth 20000 in
theorem ggX6_place_X6_fails : GoodIn wsX6_place wsX6_fails := goodIn_r _ [12, 1, 38, 39, 40, 41, 42, 43, 44, 45, 46, 47, 48, 49, 50, 51, 52, 53, 54, 55, 56, 57, 58, 59, 60, 61, 62, 63, 64, 65, 66, 67] (by decide +kernel) (by decide +kernel)
set_option maxRecDepth 20000 in
theorem gX6_place_X6_fails : GoodIn wsX6_place (wsV RX6 131 RX6 yX6_fails wsX6_fails) := goodIn_app (goodIn_of _ (by decide +kernel)) ggX6_place_X6_fails
set_option maxRecDepth 20000 in
theorem ggX6_place_X6_isKind : GoodIn wsX6_place wsX6_isKind := goodIn_r _ [15] (by decide +kernel) (by decide +kernel)
set_option maxRecDepth 20000 in
theorem gX6_place_X6_isKind : GoodIn wsX6_place (va_wsS RX6 151 yX6_isKind wsX6_isKind) := goodIn_app (goodIn_of _ (by decide +kernel)) ggX6_place_X6_isKind
set_option maxRecDepth 20000 in
theorem ggX6_place_X6_isIn : GoodIn wsX6_place wsX6_isIn := goodIn_r _ [19, 20, 38, 39, 40, 41, 42, 43, 44, 45, 46, 47, 48, 49, 50, 51, 52, 53, 54, 55, 56, 57, 58, 59, 60, 61, 62, 63, 64, 65, 66, 67] (by decide +kernel) (by decide +kernel)
set_option maxRecDepth 20000 in
theorem gX6_place_X6_isIn : GoodIn wsX6_place (wsV RX6 100 RX6 yX6_isIn wsX6_isIn) := goodIn_app (goodIn_of _ (by decide +kernel)) ggX6_place_X6_isIn
set_option maxRecDepth 20000 in
theorem ggX6_place_X6_rank : GoodIn wsX6_place wsX6_rank := goodIn_r _ [24, 2, 16, 17, 18, 6, 19, 20, 25, 26, 27, 28, 29, 30, 31, 32, 33, 34, 35, 36, 37, 38, 39, 40, 41, 42, 43, 44, 45, 46, 47, 48, 49, 50, 51, 52, 53, 54, 55, 56, 57, 58, 59, 60, 61, 62, 63, 64, 65, 66, 67] (by decide +kernel) (by decide +kernel)
set_option maxRecDepth 20000 in
theorem gX6_place_X6_rank : GoodIn wsX6_place (wsV RX6 154 RX6 yX6_rank wsX6_rank) := goodIn_app (goodIn_of _ (by decide +kernel)) ggX6_place_X6_rank
theorem dX6_place_0 : decode cX6_place 0 = .ok (.aload_n 0, 1) := by decide +kernel
theorem dX6_place_1 : decode cX6_place 1 = .ok (.iconst 0, 1) := by decide +kernel
theorem dX6_place_2 : decode cX6_place 2 = .ok (.putfield 81, 3) := by decide +kernel
theorem dX6_place_5 : decode cX6_place 5 = .ok (.aload_n 0, 1) := by decide +kernel
theorem dX6_place_6 : decode cX6_place 6 = .ok (.iload_n 1, 1) := by decide +kernel
theorem dX6_place_7 : decode cX6_place 7 = .ok (.invokevirtual 137, 3) := by decide +kernel
theorem dX6_place_10 : decode cX6_place 10 = .ok (.ifCond .eq 17, 3) := by decide +kernel
theorem dX6_place_13 : decode cX6_place 13 = .ok (.iload 5, 2) := by decide +kernel
theorem dX6_place_15 : decode cX6_place 15 = .ok (.ifCond .lt 12, 3) := by decide +kernel
theorem dX6_place_18 : decode cX6_place 18 = .ok (.iload 5, 2) := by decide +kernel
theorem dX6_place_20 : decode cX6_place 20 = .ok (.aload_n 0, 1) := by decide +kernel
theorem dX6_place_21 : decode cX6_place 21 = .ok (.getfield 97, 3) := by decide +kernel
theorem dX6_place_24 : decode cX6_place 24 = .ok (.if_icmp .lt 9, 3) := by decide +kernel
theorem dX6_place_27 : decode cX6_place 27 = .ok (.aload_n 0, 1) := by decide +kernel
theorem dX6_place_28 : decode cX6_place 28 = .ok (.iconst 1, 1) := by decide +kernel
theorem dX6_place_29 : decode cX6_place 29 = .ok (.invokevirtual 131, 3) := by decide +kernel
theorem dX6_place_32 : decode cX6_place 32 = .ok (.ireturn, 1) := by decide +kernel
theorem dX6_place_33 : decode cX6_place 33 = .ok (.iload_n 2, 1) := by decide +kernel
theorem dX6_place_34 : decode cX6_place 34 = .ok (.invokestatic 151, 3) := by decide +kernel
theorem dX6_place_37 : decode cX6_place 37 = .ok (.ifCond .ne 9, 3) := by decide +kernel
theorem dX6_place_40 : decode cX6_place 40 = .ok (.aload_n 0, 1) := by decide +kernel
theorem dX6_place_41 : decode cX6_place 41 = .ok (.iconst 2, 1) := by decide +kernel
theorem dX6_place_42 : decode cX6_place 42 = .ok (.invokevirtual 131, 3) := by decide +kernel
theorem dX6_place_45 : decode cX6_place 45 = .ok (.ireturn, 1) := by decide +kernel
theorem dX6_place_46 : decode cX6_place 46 = .ok (.aload_n 0, 1) := by decide +kernel
theorem dX6_place_47 : decode cX6_place 47 = .ok (.iload_n 1, 1) := by decide +kernel
theorem dX6_place_48 : decode cX6_place 48 = .ok (.iload 5, 2) := by decide +kernel
theorem dX6_place_50 : decode cX6_place 50 = .ok (.invokevirtual 100, 3) := by decide +kernel
theorem dX6_place_53 : decode cX6_place 53 = .ok (.ifCond .eq 15, 3) := by decide +kernel
theorem dX6_place_56 : decode cX6_place 56 = .ok (.aload_n 0, 1) := by decide +kernel
theorem dX6_place_57 : decode cX6_place 57 = .ok (.iload_n 1, 1) := by decide +kernel
theorem dX6_place_58 : decode cX6_place 58 = .ok (.iload 5, 2) := by decide +kernel
theorem dX6_place_60 : decode cX6_place 60 = .ok (.iload_n 2, 1) := by decide +kernel
theorem dX6_place_61 : decode cX6_place 61 = .ok (.lload_n 3, 1) := by decide +kernel
theorem dX6_place_62 : decode cX6_place 62 = .ok (.invokevirtual 154, 3) := by decide +kernel
theorem dX6_place_65 : decode cX6_place 65 = .ok (.goto 4, 3) := by decide +kernel
theorem dX6_place_68 : decode cX6_place 68 = .ok (.iconst (-1), 1) := by decide +kernel
theorem dX6_place_69 : decode cX6_place 69 = .ok (.ireturn, 1) := by decide +kernel
set_option maxRecDepth 20000 in
theorem ggX6_groups_X6_isView : GoodIn wsX6_groups wsX6_isView := goodIn_r _ [6, 7, 40, 41, 42, 43, 44, 45, 46, 47, 48, 49, 50, 51, 52, 53, 54, 55, 56, 57, 58, 59, 60, 61, 62, 63, 64, 65, 66, 67, 68, 69] (by decide +kernel) (by decide +kernel)
set_option maxRecDepth 20000 in
theorem gX6_groups_X6_isView : GoodIn wsX6_groups (wsV RX6 137 RX6 yX6_isView wsX6_isView) := goodIn_app (goodIn_of _ (by decide +kernel)) ggX6_groups_X6_isView
set_option maxRecDepth 20000 in
theorem ggX6_groups_X6_groupCount : GoodIn wsX6_groups wsX6_groupCount := goodIn_r _ [11, 12, 13, 14, 15, 5, 16, 17, 18, 19, 20, 21, 22, 23, 24, 25, 26, 27, 28, 29, 30, 31, 32, 33, 34, 35, 40, 41, 42, 43, 44, 45, 46, 47, 48, 49, 50, 51, 52, 53, 54, 55, 56, 57, 58, 59, 60, 61, 62, 63, 64, 65, 66, 67, 68, 69] (by decide +kernel) (by decide +kernel)
set_option maxRecDepth 20000 in
theorem gX6_groups_X6_groupCount : GoodIn wsX6_groups (wsV RX6 158 RX6 yX6_groupCount wsX6_groupCount) := goodIn_app (goodIn_of _ (by decide +kernel)) ggX6_groups_X6_groupCount
set_option maxRecDepth 20000 in
theorem ggX6_groups_X6_fails : GoodIn wsX6_groups wsX6_fails := goodIn_r _ [39, 1, 40, 41, 42, 43, 44, 45, 46, 47, 48, 49, 50, 51, 52, 53, 54, 55, 56, 57, 58, 59, 60, 61, 62, 63, 64, 65, 66, 67, 68, 69] (by decide +kernel) (by decide +kernel)
set_option maxRecDepth 20000 in
theorem gX6_groups_X6_fails : GoodIn wsX6_groups (wsV RX6 131 RX6 yX6_fails wsX6_fails) := goodIn_app (goodIn_of _ (by decide +kernel)) ggX6_groups_X6_fails
theorem dX6_groups_0 : decode cX6_groups 0 = .ok (.aload_n 0, 1) := by decide +kernel
theorem dX6_groups_1 : decode cX6_groups 1 = .ok (.iconst 0, 1) := by decide +kernel
theorem dX6_groups_2 : decode cX6_groups 2 = .ok (.putfield 81, 3) := by decide +kernel
theorem dX6_groups_5 : decode cX6_groups 5 = .ok (.aload_n 0, 1) := by decide +kernel
theorem dX6_groups_6 : decode cX6_groups 6 = .ok (.iload_n 1, 1) := by decide +kernel
theorem dX6_groups_7 : decode cX6_groups 7 = .ok (.invokevirtual 137, 3) := by decide +kernel
theorem dX6_groups_10 : decode cX6_groups 10 = .ok (.ifCond .eq 11, 3) := by decide +kernel
theorem dX6_groups_13 : decode cX6_groups 13 = .ok (.aload_n 0, 1) := by decide +kernel
theorem dX6_groups_14 : decode cX6_groups 14 = .ok (.iload_n 1, 1) := by decide +kernel
theorem dX6_groups_15 : decode cX6_groups 15 = .ok (.invokevirtual 158, 3) := by decide +kernel
theorem dX6_groups_18 : decode cX6_groups 18 = .ok (.goto 8, 3) := by decide +kernel
theorem dX6_groups_21 : decode cX6_groups 21 = .ok (.aload_n 0, 1) := by decide +kernel
theorem dX6_groups_22 : decode cX6_groups 22 = .ok (.iconst 1, 1) := by decide +kernel
theorem dX6_groups_23 : decode cX6_groups 23 = .ok (.invokevirtual 131, 3) := by decide +kernel
theorem dX6_groups_26 : decode cX6_groups 26 = .ok (.ireturn, 1) := by decide +kernel
set_option maxRecDepth 20000 in
theorem ggX6_against_X6_isView : GoodIn wsX6_against wsX6_isView := goodIn_r _ [5, 6, 38, 39, 40, 41, 42, 43, 44, 45, 46, 47, 48, 49, 50, 51, 52, 53, 54, 55, 56, 57, 58, 59, 60, 61, 62, 63, 64, 65, 66, 67] (by decide +kernel) (by decide +kernel)
set_option maxRecDepth 20000 in
theorem gX6_against_X6_isView : GoodIn wsX6_against (wsV RX6 137 RX6 yX6_isView wsX6_isView) := goodIn_app (goodIn_of _ (by decide +kernel)) ggX6_against_X6_isView
set_option maxRecDepth 20000 in
theorem ggX6_against_X6_groupCount : GoodIn wsX6_against wsX6_groupCount := goodIn_r _ [10, 11, 12, 13, 14, 4, 15, 16, 17, 18, 19, 20, 21, 22, 23, 24, 25, 26, 27, 28, 29, 30, 31, 32, 33, 34, 38, 39, 40, 41, 42, 43, 44, 45, 46, 47, 48, 49, 50, 51, 52, 53, 54, 55, 56, 57, 58, 59, 60, 61, 62, 63, 64, 65, 66, 67] (by decide +kernel) (by decide +kernel)
set_option maxRecDepth 20000 in
theorem gX6_against_X6_groupCount : GoodIn wsX6_against (wsV RX6 158 RX6 yX6_groupCount wsX6_groupCount) := goodIn_app (goodIn_of _ (by decide +kernel)) ggX6_against_X6_groupCount
set_option maxRecDepth 20000 in
theorem ggX6_against_X6_isKind : GoodIn wsX6_against wsX6_isKind := goodIn_r _ [37] (by decide +kernel) (by decide +kernel)
set_option maxRecDepth 20000 in
theorem gX6_against_X6_isKind : GoodIn wsX6_against (va_wsS RX6 151 yX6_isKind wsX6_isKind) := goodIn_app (goodIn_of _ (by decide +kernel)) ggX6_against_X6_isKind
theorem dX6_against_0 : decode cX6_against 0 = .ok (.aload_n 0, 1) := by decide +kernel
theorem dX6_against_1 : decode cX6_against 1 = .ok (.iload_n 1, 1) := by decide +kernel
theorem dX6_against_2 : decode cX6_against 2 = .ok (.invokevirtual 137, 3) := by decide +kernel
theorem dX6_against_5 : decode cX6_against 5 = .ok (.ifCond .eq 16, 3) := by decide +kernel
theorem dX6_against_8 : decode cX6_against 8 = .ok (.iload_n 3, 1) := by decide +kernel
theorem dX6_against_9 : decode cX6_against 9 = .ok (.ifCond .lt 12, 3) := by decide +kernel
theorem dX6_against_12 : decode cX6_against 12 = .ok (.iload_n 3, 1) := by decide +kernel
theorem dX6_against_13 : decode cX6_against 13 = .ok (.aload_n 0, 1) := by decide +kernel
theorem dX6_against_14 : decode cX6_against 14 = .ok (.iload_n 1, 1) := by decide +kernel
theorem dX6_against_15 : decode cX6_against 15 = .ok (.invokevirtual 158, 3) := by decide +kernel
theorem dX6_against_18 : decode cX6_against 18 = .ok (.if_icmp .lt 7, 3) := by decide +kernel
theorem dX6_against_21 : decode cX6_against 21 = .ok (.iconst 1, 1) := by decide +kernel
theorem dX6_against_22 : decode cX6_against 22 = .ok (.goto 15, 3) := by decide +kernel
theorem dX6_against_25 : decode cX6_against 25 = .ok (.iload_n 2, 1) := by decide +kernel
theorem dX6_against_26 : decode cX6_against 26 = .ok (.invokestatic 151, 3) := by decide +kernel
theorem dX6_against_29 : decode cX6_against 29 = .ok (.ifCond .ne 7, 3) := by decide +kernel
theorem dX6_against_32 : decode cX6_against 32 = .ok (.iconst 2, 1) := by decide +kernel
theorem dX6_against_33 : decode cX6_against 33 = .ok (.goto 4, 3) := by decide +kernel
theorem dX6_against_36 : decode cX6_against 36 = .ok (.iconst 0, 1) := by decide +kernel
theorem dX6_against_37 : decode cX6_against 37 = .ok (.ireturn, 1) := by decide +kernel
set_option maxRecDepth 20000 in
theorem ggX6_group_X6_against : GoodIn wsX6_group wsX6_against := goodIn_r _ [7, 8, 9, 10, 6, 11, 12, 13, 14, 15, 16, 17, 18, 19, 20, 21, 2, 22, 23, 24, 25, 26, 27, 28, 29, 30, 31, 32, 33, 34, 35, 36, 37, 38, 39, 40, 41, 42, 48, 49, 50, 51, 52, 53, 54, 55, 56, 57, 58, 59, 60, 61, 62, 63, 64, 65, 66, 67, 68, 69, 70, 71, 72, 73, 74, 75, 76, 77] (by decide +kernel) (by decide +kernel)
set_option maxRecDepth 20000 in
theorem gX6_group_X6_against : GoodIn wsX6_group (wsV RX6 161 RX6 yX6_against wsX6_against) := goodIn_app (goodIn_of _ (by decide +kernel)) ggX6_group_X6_against
set_option maxRecDepth 20000 in
theorem ggX6_group_X6_leader : GoodIn wsX6_group wsX6_leader := goodIn_r _ [46, 17, 47, 18, 19, 20, 6, 21, 2, 22, 23, 24, 25, 26, 27, 28, 29, 30, 31, 32, 33, 34, 35, 36, 37, 38, 39, 48, 49, 50, 51, 52, 53, 54, 55, 56, 57, 58, 59, 60, 61, 62, 63, 64, 65, 66, 67, 68, 69, 70, 71, 72, 73, 74, 75, 76, 77] (by decide +kernel) (by decide +kernel)
set_option maxRecDepth 20000 in
theorem gX6_group_X6_leader : GoodIn wsX6_group (wsV RX6 165 RX6 yX6_leader wsX6_leader) := goodIn_app (goodIn_of _ (by decide +kernel)) ggX6_group_X6_leader
theorem dX6_group_0 : decode cX6_group 0 = .ok (.aload_n 0, 1) := by decide +kernel
theorem dX6_group_1 : decode cX6_group 1 = .ok (.aload_n 0, 1) := by decide +kernel
theorem dX6_group_2 : decode cX6_group 2 = .ok (.iload_n 1, 1) := by decide +kernel
theorem dX6_group_3 : decode cX6_group 3 = .ok (.iload_n 2, 1) := by decide +kernel
theorem dX6_group_4 : decode cX6_group 4 = .ok (.iload 5, 2) := by decide +kernel
theorem dX6_group_6 : decode cX6_group 6 = .ok (.invokevirtual 161, 3) := by decide +kernel
theorem dX6_group_9 : decode cX6_group 9 = .ok (.putfield 81, 3) := by decide +kernel
theorem dX6_group_12 : decode cX6_group 12 = .ok (.aload_n 0, 1) := by decide +kernel
theorem dX6_group_13 : decode cX6_group 13 = .ok (.getfield 81, 3) := by decide +kernel
theorem dX6_group_16 : decode cX6_group 16 = .ok (.ifCond .le 7, 3) := by decide +kernel
theorem dX6_group_19 : decode cX6_group 19 = .ok (.lconst 0, 1) := by decide +kernel
theorem dX6_group_20 : decode cX6_group 20 = .ok (.goto 17, 3) := by decide +kernel
theorem dX6_group_23 : decode cX6_group 23 = .ok (.aload_n 0, 1) := by decide +kernel
theorem dX6_group_24 : decode cX6_group 24 = .ok (.getfield 7, 3) := by decide +kernel
theorem dX6_group_27 : decode cX6_group 27 = .ok (.aload_n 0, 1) := by decide +kernel
theorem dX6_group_28 : decode cX6_group 28 = .ok (.iload_n 1, 1) := by decide +kernel
theorem dX6_group_29 : decode cX6_group 29 = .ok (.iload_n 2, 1) := by decide +kernel
theorem dX6_group_30 : decode cX6_group 30 = .ok (.lload_n 3, 1) := by decide +kernel
theorem dX6_group_31 : decode cX6_group 31 = .ok (.iload 5, 2) := by decide +kernel
theorem dX6_group_33 : decode cX6_group 33 = .ok (.invokevirtual 165, 3) := by decide +kernel
theorem dX6_group_36 : decode cX6_group 36 = .ok (.laload, 1) := by decide +kernel
theorem dX6_group_37 : decode cX6_group 37 = .ok (.lreturn, 1) := by decide +kernel
set_option maxRecDepth 20000 in
theorem ggX6_countIn_X6_isIn : GoodIn wsX6_countIn wsX6_isIn := goodIn_r _ [7, 8, 9, 10, 11, 12, 13, 14, 15, 16, 17, 18, 19, 20, 21, 22, 23, 24, 25, 26, 27, 28, 29, 30, 31, 32, 33, 34, 35, 36, 37, 38] (by decide +kernel) (by decide +kernel)
set_option maxRecDepth 20000 in
theorem gX6_countIn_X6_isIn : GoodIn wsX6_countIn (wsV RX6 100 RX6 yX6_isIn wsX6_isIn) := goodIn_app (goodIn_of _ (by decide +kernel)) ggX6_countIn_X6_isIn
theorem dX6_countIn_0 : decode cX6_countIn 0 = .ok (.iconst 0, 1) := by decide +kernel
theorem dX6_countIn_1 : decode cX6_countIn 1 = .ok (.istore 4, 2) := by decide +kernel
theorem dX6_countIn_3 : decode cX6_countIn 3 = .ok (.iconst 0, 1) := by decide +kernel
theorem dX6_countIn_4 : decode cX6_countIn 4 = .ok (.istore 5, 2) := by decide +kernel
theorem dX6_countIn_6 : decode cX6_countIn 6 = .ok (.iload 5, 2) := by decide +kernel
theorem dX6_countIn_8 : decode cX6_countIn 8 = .ok (.aload_n 0, 1) := by decide +kernel
theorem dX6_countIn_9 : decode cX6_countIn 9 = .ok (.getfield 97, 3) := by decide +kernel
theorem dX6_countIn_12 : decode cX6_countIn 12 = .ok (.if_icmp .ge 41, 3) := by decide +kernel
theorem dX6_countIn_15 : decode cX6_countIn 15 = .ok (.iload 4, 2) := by decide +kernel
theorem dX6_countIn_17 : decode cX6_countIn 17 = .ok (.aload_n 0, 1) := by decide +kernel
theorem dX6_countIn_18 : decode cX6_countIn 18 = .ok (.iload_n 1, 1) := by decide +kernel
theorem dX6_countIn_19 : decode cX6_countIn 19 = .ok (.iload 5, 2) := by decide +kernel
theorem dX6_countIn_21 : decode cX6_countIn 21 = .ok (.invokevirtual 100, 3) := by decide +kernel
theorem dX6_countIn_24 : decode cX6_countIn 24 = .ok (.ifCond .eq 19, 3) := by decide +kernel
theorem dX6_countIn_27 : decode cX6_countIn 27 = .ok (.aload_n 0, 1) := by decide +kernel
theorem dX6_countIn_28 : decode cX6_countIn 28 = .ok (.getfield 7, 3) := by decide +kernel
theorem dX6_countIn_31 : decode cX6_countIn 31 = .ok (.iload 5, 2) := by decide +kernel
theorem dX6_countIn_33 : decode cX6_countIn 33 = .ok (.laload, 1) := by decide +kernel
theorem dX6_countIn_34 : decode cX6_countIn 34 = .ok (.lload_n 2, 1) := by decide +kernel
theorem dX6_countIn_35 : decode cX6_countIn 35 = .ok (.lcmp, 1) := by decide +kernel
theorem dX6_countIn_36 : decode cX6_countIn 36 = .ok (.ifCond .ne 7, 3) := by decide +kernel
theorem dX6_countIn_39 : decode cX6_countIn 39 = .ok (.iconst 1, 1) := by decide +kernel
theorem dX6_countIn_40 : decode cX6_countIn 40 = .ok (.goto 4, 3) := by decide +kernel
theorem dX6_countIn_43 : decode cX6_countIn 43 = .ok (.iconst 0, 1) := by decide +kernel
theorem dX6_countIn_44 : decode cX6_countIn 44 = .ok (.iadd, 1) := by decide +kernel
theorem dX6_countIn_45 : decode cX6_countIn 45 = .ok (.istore 4, 2) := by decide +kernel
theorem dX6_countIn_47 : decode cX6_countIn 47 = .ok (.iinc 5 1, 3) := by decide +kernel
theorem dX6_countIn_50 : decode cX6_countIn 50 = .ok (.goto (-44), 3) := by decide +kernel
theorem dX6_countIn_53 : decode cX6_countIn 53 = .ok (.iload 4, 2) := by decide +kernel
theorem dX6_countIn_55 : decode cX6_countIn 55 = .ok (.ireturn, 1) := by decide +kernel
set_option maxRecDepth 20000 in
theorem ggX6_counted_X6_against : GoodIn wsX6_counted wsX6_against := goodIn_r _ [7, 8, 9, 10, 6, 11, 12, 13, 14, 15, 16, 17, 18, 19, 20, 21, 2, 22, 23, 24, 25, 26, 27, 28, 29, 30, 31, 32, 33, 34, 35, 36, 37, 38, 39, 40, 41, 42, 52, 53, 54, 55, 56, 57, 58, 59, 60, 61, 62, 63, 64, 65, 66, 67, 68, 69, 70, 71, 72, 73, 74, 75, 76, 77, 78, 79, 80, 81] (by decide +kernel) (by decide +kernel)
set_option maxRecDepth 20000 in
theorem gX6_counted_X6_against : GoodIn wsX6_counted (wsV RX6 161 RX6 yX6_against wsX6_against) := goodIn_app (goodIn_of _ (by decide +kernel)) ggX6_counted_X6_against
set_option maxRecDepth 20000 in
theorem ggX6_counted_X6_leader : GoodIn wsX6_counted wsX6_leader := goodIn_r _ [46, 17, 47, 18, 19, 20, 6, 21, 2, 22, 23, 24, 25, 26, 27, 28, 29, 30, 31, 32, 33, 34, 35, 36, 37, 38, 39, 52, 53, 54, 55, 56, 57, 58, 59, 60, 61, 62, 63, 64, 65, 66, 67, 68, 69, 70, 71, 72, 73, 74, 75, 76, 77, 78, 79, 80, 81] (by decide +kernel) (by decide +kernel)
set_option maxRecDepth 20000 in
theorem gX6_counted_X6_leader : GoodIn wsX6_counted (wsV RX6 165 RX6 yX6_leader wsX6_leader) := goodIn_app (goodIn_of _ (by decide +kernel)) ggX6_counted_X6_leader
set_option maxRecDepth 20000 in
theorem ggX6_counted_X6_countIn : GoodIn wsX6_counted wsX6_countIn := goodIn_r _ [51, 17, 2, 22, 23, 24, 6, 25, 26, 52, 53, 54, 55, 56, 57, 58, 59, 60, 61, 62, 63, 64, 65, 66, 67, 68, 69, 70, 71, 72, 73, 74, 75, 76, 77, 78, 79, 80, 81] (by decide +kernel) (by decide +kernel)
set_option maxRecDepth 20000 in
theorem gX6_counted_X6_countIn : GoodIn wsX6_counted (wsV RX6 169 RX6 yX6_countIn wsX6_countIn) := goodIn_app (goodIn_of _ (by decide +kernel)) ggX6_counted_X6_countIn
theorem dX6_counted_0 : decode cX6_counted 0 = .ok (.aload_n 0, 1) := by decide +kernel
theorem dX6_counted_1 : decode cX6_counted 1 = .ok (.aload_n 0, 1) := by decide +kernel
theorem dX6_counted_2 : decode cX6_counted 2 = .ok (.iload_n 1, 1) := by decide +kernel
theorem dX6_counted_3 : decode cX6_counted 3 = .ok (.iload_n 2, 1) := by decide +kernel
theorem dX6_counted_4 : decode cX6_counted 4 = .ok (.iload 5, 2) := by decide +kernel
theorem dX6_counted_6 : decode cX6_counted 6 = .ok (.invokevirtual 161, 3) := by decide +kernel
theorem dX6_counted_9 : decode cX6_counted 9 = .ok (.putfield 81, 3) := by decide +kernel
theorem dX6_counted_12 : decode cX6_counted 12 = .ok (.aload_n 0, 1) := by decide +kernel
theorem dX6_counted_13 : decode cX6_counted 13 = .ok (.getfield 81, 3) := by decide +kernel
theorem dX6_counted_16 : decode cX6_counted 16 = .ok (.ifCond .le 7, 3) := by decide +kernel
theorem dX6_counted_19 : decode cX6_counted 19 = .ok (.iconst 0, 1) := by decide +kernel
theorem dX6_counted_20 : decode cX6_counted 20 = .ok (.goto 22, 3) := by decide +kernel
theorem dX6_counted_23 : decode cX6_counted 23 = .ok (.aload_n 0, 1) := by decide +kernel
theorem dX6_counted_24 : decode cX6_counted 24 = .ok (.iload_n 1, 1) := by decide +kernel
theorem dX6_counted_25 : decode cX6_counted 25 = .ok (.aload_n 0, 1) := by decide +kernel
theorem dX6_counted_26 : decode cX6_counted 26 = .ok (.getfield 7, 3) := by decide +kernel
theorem dX6_counted_29 : decode cX6_counted 29 = .ok (.aload_n 0, 1) := by decide +kernel
theorem dX6_counted_30 : decode cX6_counted 30 = .ok (.iload_n 1, 1) := by decide +kernel
theorem dX6_counted_31 : decode cX6_counted 31 = .ok (.iload_n 2, 1) := by decide +kernel
theorem dX6_counted_32 : decode cX6_counted 32 = .ok (.lload_n 3, 1) := by decide +kernel
theorem dX6_counted_33 : decode cX6_counted 33 = .ok (.iload 5, 2) := by decide +kernel
theorem dX6_counted_35 : decode cX6_counted 35 = .ok (.invokevirtual 165, 3) := by decide +kernel
theorem dX6_counted_38 : decode cX6_counted 38 = .ok (.laload, 1) := by decide +kernel
theorem dX6_counted_39 : decode cX6_counted 39 = .ok (.invokevirtual 169, 3) := by decide +kernel
theorem dX6_counted_42 : decode cX6_counted 42 = .ok (.ireturn, 1) := by decide +kernel
set_option maxRecDepth 20000 in
theorem ggX6_best_X6_against : GoodIn wsX6_best wsX6_against := goodIn_r _ [7, 8, 9, 10, 6, 11, 12, 13, 14, 15, 16, 17, 18, 19, 20, 21, 2, 22, 23, 24, 25, 26, 27, 28, 29, 30, 31, 32, 33, 34, 35, 36, 37, 38, 39, 40, 41, 42, 65, 66, 67, 68, 69, 70, 71, 72, 73, 74, 75, 76, 77, 78, 79, 80, 81, 82, 83, 84, 85, 86, 87, 88, 89, 90, 91, 92, 93, 94] (by decide +kernel) (by decide +kernel)
set_option maxRecDepth 20000 in
theorem gX6_best_X6_against : GoodIn wsX6_best (wsV RX6 161 RX6 yX6_against wsX6_against) := goodIn_app (goodIn_of _ (by decide +kernel)) ggX6_best_X6_against
set_option maxRecDepth 20000 in
theorem ggX6_best_X6_leader : GoodIn wsX6_best wsX6_leader := goodIn_r _ [46, 17, 47, 18, 19, 20, 6, 21, 2, 22, 23, 24, 25, 26, 27, 28, 29, 30, 31, 32, 33, 34, 35, 36, 37, 38, 39, 65, 66, 67, 68, 69, 70, 71, 72, 73, 74, 75, 76, 77, 78, 79, 80, 81, 82, 83, 84, 85, 86, 87, 88, 89, 90, 91, 92, 93, 94] (by decide +kernel) (by decide +kernel)
set_option maxRecDepth 20000 in
theorem gX6_best_X6_leader : GoodIn wsX6_best (wsV RX6 165 RX6 yX6_leader wsX6_leader) := goodIn_app (goodIn_of _ (by decide +kernel)) ggX6_best_X6_leader
set_option maxRecDepth 20000 in
theorem ggX6_best_X6_countIn : GoodIn wsX6_best wsX6_countIn := goodIn_r _ [51, 17, 2, 22, 23, 24, 6, 25, 26, 65, 66, 67, 68, 69, 70, 71, 72, 73, 74, 75, 76, 77, 78, 79, 80, 81, 82, 83, 84, 85, 86, 87, 88, 89, 90, 91, 92, 93, 94] (by decide +kernel) (by decide +kernel)
set_option maxRecDepth 20000 in
theorem gX6_best_X6_countIn : GoodIn wsX6_best (wsV RX6 169 RX6 yX6_countIn wsX6_countIn) := goodIn_app (goodIn_of _ (by decide +kernel)) ggX6_best_X6_countIn
set_option maxRecDepth 20000 in
theorem ggX6_best_X6_fails : GoodIn wsX6_best wsX6_fails := goodIn_r _ [55, 1, 65, 66, 67, 68, 69, 70, 71, 72, 73, 74, 75, 76, 77, 78, 79, 80, 81, 82, 83, 84, 85, 86, 87, 88, 89, 90, 91, 92, 93, 94] (by decide +kernel) (by decide +kernel)
set_option maxRecDepth 20000 in
theorem gX6_best_X6_fails : GoodIn wsX6_best (wsV RX6 131 RX6 yX6_fails wsX6_fails) := goodIn_app (goodIn_of _ (by decide +kernel)) ggX6_best_X6_fails
set_option maxRecDepth 20000 in
theorem ggX6_best_X6_following : GoodIn wsX6_best wsX6_following := goodIn_r _ [59, 17, 2, 22, 23, 24, 6, 25, 26, 60, 61, 62, 63, 32, 64, 34, 35, 36, 37, 38, 39, 27, 28, 29, 30, 31, 33, 65, 66, 67, 68, 69, 70, 71, 72, 73, 74, 75, 76, 77, 78, 79, 80, 81, 82, 83, 84, 85, 86, 87, 88, 89, 90, 91, 92, 93, 94] (by decide +kernel) (by decide +kernel)
set_option maxRecDepth 20000 in
theorem gX6_best_X6_following : GoodIn wsX6_best (wsV RX6 173 RX6 yX6_following wsX6_following) := goodIn_app (goodIn_of _ (by decide +kernel)) ggX6_best_X6_following
theorem dX6_best_0 : decode cX6_best 0 = .ok (.aload_n 0, 1) := by decide +kernel
theorem dX6_best_1 : decode cX6_best 1 = .ok (.aload_n 0, 1) := by decide +kernel
theorem dX6_best_2 : decode cX6_best 2 = .ok (.iload_n 1, 1) := by decide +kernel
theorem dX6_best_3 : decode cX6_best 3 = .ok (.iload_n 2, 1) := by decide +kernel
theorem dX6_best_4 : decode cX6_best 4 = .ok (.iload 5, 2) := by decide +kernel
theorem dX6_best_6 : decode cX6_best 6 = .ok (.invokevirtual 161, 3) := by decide +kernel
theorem dX6_best_9 : decode cX6_best 9 = .ok (.putfield 81, 3) := by decide +kernel
theorem dX6_best_12 : decode cX6_best 12 = .ok (.aload_n 0, 1) := by decide +kernel
theorem dX6_best_13 : decode cX6_best 13 = .ok (.getfield 81, 3) := by decide +kernel
theorem dX6_best_16 : decode cX6_best 16 = .ok (.ifCond .le 5, 3) := by decide +kernel
theorem dX6_best_19 : decode cX6_best 19 = .ok (.iconst 0, 1) := by decide +kernel
theorem dX6_best_20 : decode cX6_best 20 = .ok (.ireturn, 1) := by decide +kernel
theorem dX6_best_21 : decode cX6_best 21 = .ok (.aload_n 0, 1) := by decide +kernel
theorem dX6_best_22 : decode cX6_best 22 = .ok (.iload_n 1, 1) := by decide +kernel
theorem dX6_best_23 : decode cX6_best 23 = .ok (.iload_n 2, 1) := by decide +kernel
theorem dX6_best_24 : decode cX6_best 24 = .ok (.lload_n 3, 1) := by decide +kernel
theorem dX6_best_25 : decode cX6_best 25 = .ok (.iload 5, 2) := by decide +kernel
theorem dX6_best_27 : decode cX6_best 27 = .ok (.invokevirtual 165, 3) := by decide +kernel
theorem dX6_best_30 : decode cX6_best 30 = .ok (.istore 7, 2) := by decide +kernel
theorem dX6_best_32 : decode cX6_best 32 = .ok (.iload 6, 2) := by decide +kernel
theorem dX6_best_34 : decode cX6_best 34 = .ok (.ifCond .lt 20, 3) := by decide +kernel
theorem dX6_best_37 : decode cX6_best 37 = .ok (.iload 6, 2) := by decide +kernel
theorem dX6_best_39 : decode cX6_best 39 = .ok (.aload_n 0, 1) := by decide +kernel
theorem dX6_best_40 : decode cX6_best 40 = .ok (.iload_n 1, 1) := by decide +kernel
theorem dX6_best_41 : decode cX6_best 41 = .ok (.aload_n 0, 1) := by decide +kernel
theorem dX6_best_42 : decode cX6_best 42 = .ok (.getfield 7, 3) := by decide +kernel
theorem dX6_best_45 : decode cX6_best 45 = .ok (.iload 7, 2) := by decide +kernel
theorem dX6_best_47 : decode cX6_best 47 = .ok (.laload, 1) := by decide +kernel
theorem dX6_best_48 : decode cX6_best 48 = .ok (.invokevirtual 169, 3) := by decide +kernel
theorem dX6_best_51 : decode cX6_best 51 = .ok (.if_icmp .lt 9, 3) := by decide +kernel
theorem dX6_best_54 : decode cX6_best 54 = .ok (.aload_n 0, 1) := by decide +kernel
theorem dX6_best_55 : decode cX6_best 55 = .ok (.iconst 1, 1) := by decide +kernel
theorem dX6_best_56 : decode cX6_best 56 = .ok (.invokevirtual 131, 3) := by decide +kernel
theorem dX6_best_59 : decode cX6_best 59 = .ok (.ireturn, 1) := by decide +kernel
theorem dX6_best_60 : decode cX6_best 60 = .ok (.iconst 0, 1) := by decide +kernel
theorem dX6_best_61 : decode cX6_best 61 = .ok (.istore 8, 2) := by decide +kernel
theorem dX6_best_63 : decode cX6_best 63 = .ok (.iload 8, 2) := by decide +kernel
theorem dX6_best_65 : decode cX6_best 65 = .ok (.iload 6, 2) := by decide +kernel
theorem dX6_best_67 : decode cX6_best 67 = .ok (.if_icmp .ge 30, 3) := by decide +kernel
theorem dX6_best_70 : decode cX6_best 70 = .ok (.aload_n 0, 1) := by decide +kernel
theorem dX6_best_71 : decode cX6_best 71 = .ok (.iload_n 1, 1) := by decide +kernel
theorem dX6_best_72 : decode cX6_best 72 = .ok (.iload_n 2, 1) := by decide +kernel
theorem dX6_best_73 : decode cX6_best 73 = .ok (.lload_n 3, 1) := by decide +kernel
theorem dX6_best_74 : decode cX6_best 74 = .ok (.iload 7, 2) := by decide +kernel
theorem dX6_best_76 : decode cX6_best 76 = .ok (.iconst 1, 1) := by decide +kernel
theorem dX6_best_77 : decode cX6_best 77 = .ok (.aload_n 0, 1) := by decide +kernel
theorem dX6_best_78 : decode cX6_best 78 = .ok (.getfield 7, 3) := by decide +kernel
theorem dX6_best_81 : decode cX6_best 81 = .ok (.iload 7, 2) := by decide +kernel
theorem dX6_best_83 : decode cX6_best 83 = .ok (.laload, 1) := by decide +kernel
theorem dX6_best_84 : decode cX6_best 84 = .ok (.iconst 0, 1) := by decide +kernel
theorem dX6_best_85 : decode cX6_best 85 = .ok (.iconst 0, 1) := by decide +kernel
theorem dX6_best_86 : decode cX6_best 86 = .ok (.invokevirtual 173, 3) := by decide +kernel
theorem dX6_best_89 : decode cX6_best 89 = .ok (.istore 7, 2) := by decide +kernel
theorem dX6_best_91 : decode cX6_best 91 = .ok (.iinc 8 1, 3) := by decide +kernel
theorem dX6_best_94 : decode cX6_best 94 = .ok (.goto (-31), 3) := by decide +kernel
theorem dX6_best_97 : decode cX6_best 97 = .ok (.iload 7, 2) := by decide +kernel
theorem dX6_best_99 : decode cX6_best 99 = .ok (.ireturn, 1) := by decide +kernel
set_option maxRecDepth 20000 in
theorem ggX6_following_X6_isIn : GoodIn wsX6_following wsX6_isIn := goodIn_r _ [7, 8, 27, 28, 29, 30, 31, 32, 33, 34, 35, 36, 37, 38, 39, 40, 41, 42, 43, 44, 45, 46, 47, 48, 49, 50, 51, 52, 53, 54, 55, 56] (by decide +kernel) (by decide +kernel)
set_option maxRecDepth 20000 in
theorem gX6_following_X6_isIn : GoodIn wsX6_following (wsV RX6 100 RX6 yX6_isIn wsX6_isIn) := goodIn_app (goodIn_of _ (by decide +kernel)) ggX6_following_X6_isIn
set_option maxRecDepth 20000 in
theorem ggX6_following_X6_isOfSlice : GoodIn wsX6_following wsX6_isOfSlice := goodIn_r _ [12, 13, 14, 15, 16, 6, 17, 18, 19, 20, 27, 28, 29, 30, 31, 32, 33, 34, 35, 36, 37, 38, 39, 40, 41, 42, 43, 44, 45, 46, 47, 48, 49, 50, 51, 52, 53, 54, 55, 56] (by decide +kernel) (by decide +kernel)
set_option maxRecDepth 20000 in
theorem gX6_following_X6_isOfSlice : GoodIn wsX6_following (wsV RX6 177 RX6 yX6_isOfSlice wsX6_isOfSlice) := goodIn_app (goodIn_of _ (by decide +kernel)) ggX6_following_X6_isOfSlice
set_option maxRecDepth 20000 in
theorem ggX6_following_X6_isAhead : GoodIn wsX6_following wsX6_isAhead := goodIn_r _ [24, 25, 13, 26, 15, 16, 6, 17, 18, 19, 20, 27, 28, 29, 30, 31, 32, 33, 34, 35, 36, 37, 38, 39, 40, 41, 42, 43, 44, 45, 46, 47, 48, 49, 50, 51, 52, 53, 54, 55, 56] (by decide +kernel) (by decide +kernel)
set_option maxRecDepth 20000 in
theorem gX6_following_X6_isAhead : GoodIn wsX6_following (wsV RX6 104 RX6 yX6_isAhead wsX6_isAhead) := goodIn_app (goodIn_of _ (by decide +kernel)) ggX6_following_X6_isAhead
theorem dX6_following_0 : decode cX6_following 0 = .ok (.iconst (-1), 1) := by decide +kernel
theorem dX6_following_1 : decode cX6_following 1 = .ok (.istore 11, 2) := by decide +kernel
theorem dX6_following_3 : decode cX6_following 3 = .ok (.iconst 0, 1) := by decide +kernel
theorem dX6_following_4 : decode cX6_following 4 = .ok (.istore 12, 2) := by decide +kernel
theorem dX6_following_6 : decode cX6_following 6 = .ok (.iload 12, 2) := by decide +kernel
theorem dX6_following_8 : decode cX6_following 8 = .ok (.aload_n 0, 1) := by decide +kernel
theorem dX6_following_9 : decode cX6_following 9 = .ok (.getfield 97, 3) := by decide +kernel
theorem dX6_following_12 : decode cX6_following 12 = .ok (.if_icmp .ge 107, 3) := by decide +kernel
theorem dX6_following_15 : decode cX6_following 15 = .ok (.aload_n 0, 1) := by decide +kernel
theorem dX6_following_16 : decode cX6_following 16 = .ok (.iload_n 1, 1) := by decide +kernel
theorem dX6_following_17 : decode cX6_following 17 = .ok (.iload 12, 2) := by decide +kernel
theorem dX6_following_19 : decode cX6_following 19 = .ok (.invokevirtual 100, 3) := by decide +kernel
theorem dX6_following_22 : decode cX6_following 22 = .ok (.ifCond .eq 43, 3) := by decide +kernel
theorem dX6_following_25 : decode cX6_following 25 = .ok (.iload 6, 2) := by decide +kernel
theorem dX6_following_27 : decode cX6_following 27 = .ok (.ifCond .eq 16, 3) := by decide +kernel
theorem dX6_following_30 : decode cX6_following 30 = .ok (.aload_n 0, 1) := by decide +kernel
theorem dX6_following_31 : decode cX6_following 31 = .ok (.getfield 7, 3) := by decide +kernel
theorem dX6_following_34 : decode cX6_following 34 = .ok (.iload 12, 2) := by decide +kernel
theorem dX6_following_36 : decode cX6_following 36 = .ok (.laload, 1) := by decide +kernel
theorem dX6_following_37 : decode cX6_following 37 = .ok (.lload 7, 2) := by decide +kernel
theorem dX6_following_39 : decode cX6_following 39 = .ok (.lcmp, 1) := by decide +kernel
theorem dX6_following_40 : decode cX6_following 40 = .ok (.ifCond .ne 25, 3) := by decide +kernel
theorem dX6_following_43 : decode cX6_following 43 = .ok (.iload 9, 2) := by decide +kernel
theorem dX6_following_45 : decode cX6_following 45 = .ok (.ifCond .eq 16, 3) := by decide +kernel
theorem dX6_following_48 : decode cX6_following 48 = .ok (.aload_n 0, 1) := by decide +kernel
theorem dX6_following_49 : decode cX6_following 49 = .ok (.iload 12, 2) := by decide +kernel
theorem dX6_following_51 : decode cX6_following 51 = .ok (.iload 9, 2) := by decide +kernel
theorem dX6_following_53 : decode cX6_following 53 = .ok (.iload 10, 2) := by decide +kernel
theorem dX6_following_55 : decode cX6_following 55 = .ok (.invokevirtual 177, 3) := by decide +kernel
theorem dX6_following_58 : decode cX6_following 58 = .ok (.ifCond .eq 7, 3) := by decide +kernel
theorem dX6_following_61 : decode cX6_following 61 = .ok (.iconst 1, 1) := by decide +kernel
theorem dX6_following_62 : decode cX6_following 62 = .ok (.goto 4, 3) := by decide +kernel
theorem dX6_following_65 : decode cX6_following 65 = .ok (.iconst 0, 1) := by decide +kernel
theorem dX6_following_66 : decode cX6_following 66 = .ok (.istore 13, 2) := by decide +kernel
theorem dX6_following_68 : decode cX6_following 68 = .ok (.iload 13, 2) := by decide +kernel
theorem dX6_following_70 : decode cX6_following 70 = .ok (.ifCond .eq 43, 3) := by decide +kernel
theorem dX6_following_73 : decode cX6_following 73 = .ok (.iload 5, 2) := by decide +kernel
theorem dX6_following_75 : decode cX6_following 75 = .ok (.ifCond .lt 16, 3) := by decide +kernel
theorem dX6_following_78 : decode cX6_following 78 = .ok (.aload_n 0, 1) := by decide +kernel
theorem dX6_following_79 : decode cX6_following 79 = .ok (.iload 5, 2) := by decide +kernel
theorem dX6_following_81 : decode cX6_following 81 = .ok (.iload 12, 2) := by decide +kernel
theorem dX6_following_83 : decode cX6_following 83 = .ok (.iload_n 2, 1) := by decide +kernel
theorem dX6_following_84 : decode cX6_following 84 = .ok (.lload_n 3, 1) := by decide +kernel
theorem dX6_following_85 : decode cX6_following 85 = .ok (.invokevirtual 104, 3) := by decide +kernel
theorem dX6_following_88 : decode cX6_following 88 = .ok (.ifCond .eq 25, 3) := by decide +kernel
theorem dX6_following_91 : decode cX6_following 91 = .ok (.iload 11, 2) := by decide +kernel
theorem dX6_following_93 : decode cX6_following 93 = .ok (.ifCond .lt 16, 3) := by decide +kernel
theorem dX6_following_96 : decode cX6_following 96 = .ok (.aload_n 0, 1) := by decide +kernel
theorem dX6_following_97 : decode cX6_following 97 = .ok (.iload 12, 2) := by decide +kernel
theorem dX6_following_99 : decode cX6_following 99 = .ok (.iload 11, 2) := by decide +kernel
theorem dX6_following_101 : decode cX6_following 101 = .ok (.iload_n 2, 1) := by decide +kernel
theorem dX6_following_102 : decode cX6_following 102 = .ok (.lload_n 3, 1) := by decide +kernel
theorem dX6_following_103 : decode cX6_following 103 = .ok (.invokevirtual 104, 3) := by decide +kernel
theorem dX6_following_106 : decode cX6_following 106 = .ok (.ifCond .eq 7, 3) := by decide +kernel
theorem dX6_following_109 : decode cX6_following 109 = .ok (.iload 12, 2) := by decide +kernel
theorem dX6_following_111 : decode cX6_following 111 = .ok (.istore 11, 2) := by decide +kernel
theorem dX6_following_113 : decode cX6_following 113 = .ok (.iinc 12 1, 3) := by decide +kernel
theorem dX6_following_116 : decode cX6_following 116 = .ok (.goto (-110), 3) := by decide +kernel
theorem dX6_following_119 : decode cX6_following 119 = .ok (.iload 11, 2) := by decide +kernel
theorem dX6_following_121 : decode cX6_following 121 = .ok (.ireturn, 1) := by decide +kernel
set_option maxRecDepth 20000 in
theorem ggX6_isOfSlice_X6_mix : GoodIn wsX6_isOfSlice wsX6_mix := goodIn_r _ [6, 7, 8, 9] (by decide +kernel) (by decide +kernel)
set_option maxRecDepth 20000 in
theorem gX6_isOfSlice_X6_mix : GoodIn wsX6_isOfSlice (va_wsS RX6 91 yX6_mix wsX6_mix) := goodIn_app (goodIn_of _ (by decide +kernel)) ggX6_isOfSlice_X6_mix
theorem dX6_isOfSlice_0 : decode cX6_isOfSlice 0 = .ok (.aload_n 0, 1) := by decide +kernel
theorem dX6_isOfSlice_1 : decode cX6_isOfSlice 1 = .ok (.getfield 13, 3) := by decide +kernel
theorem dX6_isOfSlice_4 : decode cX6_isOfSlice 4 = .ok (.iload_n 1, 1) := by decide +kernel
theorem dX6_isOfSlice_5 : decode cX6_isOfSlice 5 = .ok (.laload, 1) := by decide +kernel
theorem dX6_isOfSlice_6 : decode cX6_isOfSlice 6 = .ok (.lconst 0, 1) := by decide +kernel
theorem dX6_isOfSlice_7 : decode cX6_isOfSlice 7 = .ok (.invokestatic 91, 3) := by decide +kernel
theorem dX6_isOfSlice_10 : decode cX6_isOfSlice 10 = .ok (.lstore 4, 2) := by decide +kernel
theorem dX6_isOfSlice_12 : decode cX6_isOfSlice 12 = .ok (.lload 4, 2) := by decide +kernel
theorem dX6_isOfSlice_14 : decode cX6_isOfSlice 14 = .ok (.iconst 1, 1) := by decide +kernel
theorem dX6_isOfSlice_15 : decode cX6_isOfSlice 15 = .ok (.lushr, 1) := by decide +kernel
theorem dX6_isOfSlice_16 : decode cX6_isOfSlice 16 = .ok (.iload_n 2, 1) := by decide +kernel
theorem dX6_isOfSlice_17 : decode cX6_isOfSlice 17 = .ok (.i2l, 1) := by decide +kernel
theorem dX6_isOfSlice_18 : decode cX6_isOfSlice 18 = .ok (.lrem, 1) := by decide +kernel
theorem dX6_isOfSlice_19 : decode cX6_isOfSlice 19 = .ok (.ldc2_w 181, 3) := by decide +kernel
theorem dX6_isOfSlice_22 : decode cX6_isOfSlice 22 = .ok (.lmul, 1) := by decide +kernel
theorem dX6_isOfSlice_23 : decode cX6_isOfSlice 23 = .ok (.lload 4, 2) := by decide +kernel
theorem dX6_isOfSlice_25 : decode cX6_isOfSlice 25 = .ok (.lconst 1, 1) := by decide +kernel
theorem dX6_isOfSlice_26 : decode cX6_isOfSlice 26 = .ok (.land, 1) := by decide +kernel
theorem dX6_isOfSlice_27 : decode cX6_isOfSlice 27 = .ok (.ladd, 1) := by decide +kernel
theorem dX6_isOfSlice_28 : decode cX6_isOfSlice 28 = .ok (.iload_n 2, 1) := by decide +kernel
theorem dX6_isOfSlice_29 : decode cX6_isOfSlice 29 = .ok (.i2l, 1) := by decide +kernel
theorem dX6_isOfSlice_30 : decode cX6_isOfSlice 30 = .ok (.lrem, 1) := by decide +kernel
theorem dX6_isOfSlice_31 : decode cX6_isOfSlice 31 = .ok (.lstore 6, 2) := by decide +kernel
theorem dX6_isOfSlice_33 : decode cX6_isOfSlice 33 = .ok (.lload 6, 2) := by decide +kernel
theorem dX6_isOfSlice_35 : decode cX6_isOfSlice 35 = .ok (.iload_n 3, 1) := by decide +kernel
theorem dX6_isOfSlice_36 : decode cX6_isOfSlice 36 = .ok (.i2l, 1) := by decide +kernel
theorem dX6_isOfSlice_37 : decode cX6_isOfSlice 37 = .ok (.lcmp, 1) := by decide +kernel
theorem dX6_isOfSlice_38 : decode cX6_isOfSlice 38 = .ok (.ifCond .ne 7, 3) := by decide +kernel
theorem dX6_isOfSlice_41 : decode cX6_isOfSlice 41 = .ok (.iconst 1, 1) := by decide +kernel
theorem dX6_isOfSlice_42 : decode cX6_isOfSlice 42 = .ok (.goto 4, 3) := by decide +kernel
theorem dX6_isOfSlice_45 : decode cX6_isOfSlice 45 = .ok (.iconst 0, 1) := by decide +kernel
theorem dX6_isOfSlice_46 : decode cX6_isOfSlice 46 = .ok (.ireturn, 1) := by decide +kernel
theorem dX6_isReader_0 : decode cX6_isReader 0 = .ok (.iload_n 1, 1) := by decide +kernel
theorem dX6_isReader_1 : decode cX6_isReader 1 = .ok (.ifCond .lt 15, 3) := by decide +kernel
theorem dX6_isReader_4 : decode cX6_isReader 4 = .ok (.iload_n 1, 1) := by decide +kernel
theorem dX6_isReader_5 : decode cX6_isReader 5 = .ok (.aload_n 0, 1) := by decide +kernel
theorem dX6_isReader_6 : decode cX6_isReader 6 = .ok (.getfield 134, 3) := by decide +kernel
theorem dX6_isReader_9 : decode cX6_isReader 9 = .ok (.if_icmp .ge 7, 3) := by decide +kernel
theorem dX6_isReader_12 : decode cX6_isReader 12 = .ok (.iconst 1, 1) := by decide +kernel
theorem dX6_isReader_13 : decode cX6_isReader 13 = .ok (.goto 4, 3) := by decide +kernel
theorem dX6_isReader_16 : decode cX6_isReader 16 = .ok (.iconst 0, 1) := by decide +kernel
theorem dX6_isReader_17 : decode cX6_isReader 17 = .ok (.ireturn, 1) := by decide +kernel
set_option maxRecDepth 20000 in
theorem ggX6_nextOf_X6_following : GoodIn wsX6_nextOf wsX6_following := goodIn_r _ [14, 15, 16, 17, 18, 19, 13, 20, 21, 22, 23, 24, 25, 26, 27, 28, 29, 30, 31, 32, 33, 34, 35, 36, 37, 38, 39, 40, 41, 42, 43, 44, 45, 46, 47, 48, 49, 50, 51, 52, 53, 54, 55, 56, 57, 58, 59, 60, 61, 62, 63, 64, 65, 66, 67, 68, 69] (by decide +kernel) (by decide +kernel)
set_option maxRecDepth 20000 in
theorem gX6_nextOf_X6_following : GoodIn wsX6_nextOf (wsV RX6 173 RX6 yX6_following wsX6_following) := goodIn_app (goodIn_of _ (by decide +kernel)) ggX6_nextOf_X6_following
theorem dX6_nextOf_0 : decode cX6_nextOf 0 = .ok (.aload_n 0, 1) := by decide +kernel
theorem dX6_nextOf_1 : decode cX6_nextOf 1 = .ok (.aload_n 0, 1) := by decide +kernel
theorem dX6_nextOf_2 : decode cX6_nextOf 2 = .ok (.getfield 39, 3) := by decide +kernel
theorem dX6_nextOf_5 : decode cX6_nextOf 5 = .ok (.iload_n 1, 1) := by decide +kernel
theorem dX6_nextOf_6 : decode cX6_nextOf 6 = .ok (.iaload, 1) := by decide +kernel
theorem dX6_nextOf_7 : decode cX6_nextOf 7 = .ok (.aload_n 0, 1) := by decide +kernel
theorem dX6_nextOf_8 : decode cX6_nextOf 8 = .ok (.getfield 42, 3) := by decide +kernel
theorem dX6_nextOf_11 : decode cX6_nextOf 11 = .ok (.iload_n 1, 1) := by decide +kernel
theorem dX6_nextOf_12 : decode cX6_nextOf 12 = .ok (.iaload, 1) := by decide +kernel
theorem dX6_nextOf_13 : decode cX6_nextOf 13 = .ok (.aload_n 0, 1) := by decide +kernel
theorem dX6_nextOf_14 : decode cX6_nextOf 14 = .ok (.getfield 45, 3) := by decide +kernel
theorem dX6_nextOf_17 : decode cX6_nextOf 17 = .ok (.iload_n 1, 1) := by decide +kernel
theorem dX6_nextOf_18 : decode cX6_nextOf 18 = .ok (.laload, 1) := by decide +kernel
theorem dX6_nextOf_19 : decode cX6_nextOf 19 = .ok (.aload_n 0, 1) := by decide +kernel
theorem dX6_nextOf_20 : decode cX6_nextOf 20 = .ok (.getfield 72, 3) := by decide +kernel
theorem dX6_nextOf_23 : decode cX6_nextOf 23 = .ok (.iload_n 1, 1) := by decide +kernel
theorem dX6_nextOf_24 : decode cX6_nextOf 24 = .ok (.iaload, 1) := by decide +kernel
theorem dX6_nextOf_25 : decode cX6_nextOf 25 = .ok (.aload_n 0, 1) := by decide +kernel
theorem dX6_nextOf_26 : decode cX6_nextOf 26 = .ok (.getfield 63, 3) := by decide +kernel
theorem dX6_nextOf_29 : decode cX6_nextOf 29 = .ok (.iload_n 1, 1) := by decide +kernel
theorem dX6_nextOf_30 : decode cX6_nextOf 30 = .ok (.baload, 1) := by decide +kernel
theorem dX6_nextOf_31 : decode cX6_nextOf 31 = .ok (.aload_n 0, 1) := by decide +kernel
theorem dX6_nextOf_32 : decode cX6_nextOf 32 = .ok (.getfield 66, 3) := by decide +kernel
theorem dX6_nextOf_35 : decode cX6_nextOf 35 = .ok (.iload_n 1, 1) := by decide +kernel
theorem dX6_nextOf_36 : decode cX6_nextOf 36 = .ok (.laload, 1) := by decide +kernel
theorem dX6_nextOf_37 : decode cX6_nextOf 37 = .ok (.aload_n 0, 1) := by decide +kernel
theorem dX6_nextOf_38 : decode cX6_nextOf 38 = .ok (.getfield 48, 3) := by decide +kernel
theorem dX6_nextOf_41 : decode cX6_nextOf 41 = .ok (.iload_n 1, 1) := by decide +kernel
theorem dX6_nextOf_42 : decode cX6_nextOf 42 = .ok (.baload, 1) := by decide +kernel
theorem dX6_nextOf_43 : decode cX6_nextOf 43 = .ok (.ifCond .eq 12, 3) := by decide +kernel
theorem dX6_nextOf_46 : decode cX6_nextOf 46 = .ok (.aload_n 0, 1) := by decide +kernel
theorem dX6_nextOf_47 : decode cX6_nextOf 47 = .ok (.getfield 51, 3) := by decide +kernel
theorem dX6_nextOf_50 : decode cX6_nextOf 50 = .ok (.iload_n 1, 1) := by decide +kernel
theorem dX6_nextOf_51 : decode cX6_nextOf 51 = .ok (.iaload, 1) := by decide +kernel
theorem dX6_nextOf_52 : decode cX6_nextOf 52 = .ok (.goto 4, 3) := by decide +kernel
theorem dX6_nextOf_55 : decode cX6_nextOf 55 = .ok (.iconst 0, 1) := by decide +kernel
theorem dX6_nextOf_56 : decode cX6_nextOf 56 = .ok (.aload_n 0, 1) := by decide +kernel
theorem dX6_nextOf_57 : decode cX6_nextOf 57 = .ok (.getfield 54, 3) := by decide +kernel
theorem dX6_nextOf_60 : decode cX6_nextOf 60 = .ok (.iload_n 1, 1) := by decide +kernel
theorem dX6_nextOf_61 : decode cX6_nextOf 61 = .ok (.iaload, 1) := by decide +kernel
theorem dX6_nextOf_62 : decode cX6_nextOf 62 = .ok (.invokevirtual 173, 3) := by decide +kernel
theorem dX6_nextOf_65 : decode cX6_nextOf 65 = .ok (.ireturn, 1) := by decide +kernel
set_option maxRecDepth 20000 in
theorem ggX6_leftOf_X6_nextOf : GoodIn wsX6_leftOf wsX6_nextOf := goodIn_r _ [6, 7, 8, 9, 1, 10, 11, 12, 13, 14, 15, 16, 17, 5, 18, 19, 20, 21, 22, 23, 24, 25, 26, 27, 28, 29, 30, 31, 32, 33, 34, 35, 36, 37, 38, 39, 40, 41, 42, 43, 44, 45, 46, 47, 48, 49, 50, 51, 52, 53, 54, 55, 56, 57, 58, 59, 60, 61, 62, 63, 64, 65, 66, 67, 68, 69, 70, 71, 72, 73] (by decide +kernel) (by decide +kernel)
set_option maxRecDepth 20000 in
theorem gX6_leftOf_X6_nextOf : GoodIn wsX6_leftOf (wsV RX6 183 RX6 yX6_nextOf wsX6_nextOf) := goodIn_app (goodIn_of _ (by decide +kernel)) ggX6_leftOf_X6_nextOf
theorem dX6_leftOf_0 : decode cX6_leftOf 0 = .ok (.iconst 0, 1) := by decide +kernel
theorem dX6_leftOf_1 : decode cX6_leftOf 1 = .ok (.istore_n 2, 1) := by decide +kernel
theorem dX6_leftOf_2 : decode cX6_leftOf 2 = .ok (.aload_n 0, 1) := by decide +kernel
theorem dX6_leftOf_3 : decode cX6_leftOf 3 = .ok (.getfield 72, 3) := by decide +kernel
theorem dX6_leftOf_6 : decode cX6_leftOf 6 = .ok (.iload_n 1, 1) := by decide +kernel
theorem dX6_leftOf_7 : decode cX6_leftOf 7 = .ok (.iaload, 1) := by decide +kernel
theorem dX6_leftOf_8 : decode cX6_leftOf 8 = .ok (.istore_n 3, 1) := by decide +kernel
theorem dX6_leftOf_9 : decode cX6_leftOf 9 = .ok (.aload_n 0, 1) := by decide +kernel
theorem dX6_leftOf_10 : decode cX6_leftOf 10 = .ok (.iload_n 1, 1) := by decide +kernel
theorem dX6_leftOf_11 : decode cX6_leftOf 11 = .ok (.invokevirtual 183, 3) := by decide +kernel
theorem dX6_leftOf_14 : decode cX6_leftOf 14 = .ok (.ifCond .lt 20, 3) := by decide +kernel
theorem dX6_leftOf_17 : decode cX6_leftOf 17 = .ok (.aload_n 0, 1) := by decide +kernel
theorem dX6_leftOf_18 : decode cX6_leftOf 18 = .ok (.getfield 72, 3) := by decide +kernel
theorem dX6_leftOf_21 : decode cX6_leftOf 21 = .ok (.iload_n 1, 1) := by decide +kernel
theorem dX6_leftOf_22 : decode cX6_leftOf 22 = .ok (.aload_n 0, 1) := by decide +kernel
theorem dX6_leftOf_23 : decode cX6_leftOf 23 = .ok (.iload_n 1, 1) := by decide +kernel
theorem dX6_leftOf_24 : decode cX6_leftOf 24 = .ok (.invokevirtual 183, 3) := by decide +kernel
theorem dX6_leftOf_27 : decode cX6_leftOf 27 = .ok (.iastore, 1) := by decide +kernel
theorem dX6_leftOf_28 : decode cX6_leftOf 28 = .ok (.iinc 2 1, 3) := by decide +kernel
theorem dX6_leftOf_31 : decode cX6_leftOf 31 = .ok (.goto (-22), 3) := by decide +kernel
theorem dX6_leftOf_34 : decode cX6_leftOf 34 = .ok (.aload_n 0, 1) := by decide +kernel
theorem dX6_leftOf_35 : decode cX6_leftOf 35 = .ok (.getfield 72, 3) := by decide +kernel
theorem dX6_leftOf_38 : decode cX6_leftOf 38 = .ok (.iload_n 1, 1) := by decide +kernel
theorem dX6_leftOf_39 : decode cX6_leftOf 39 = .ok (.iload_n 3, 1) := by decide +kernel
theorem dX6_leftOf_40 : decode cX6_leftOf 40 = .ok (.iastore, 1) := by decide +kernel
theorem dX6_leftOf_41 : decode cX6_leftOf 41 = .ok (.iload_n 2, 1) := by decide +kernel
theorem dX6_leftOf_42 : decode cX6_leftOf 42 = .ok (.ireturn, 1) := by decide +kernel
theorem dX6_addReader_0 : decode cX6_addReader 0 = .ok (.aload_n 0, 1) := by decide +kernel
theorem dX6_addReader_1 : decode cX6_addReader 1 = .ok (.getfield 39, 3) := by decide +kernel
theorem dX6_addReader_4 : decode cX6_addReader 4 = .ok (.aload_n 0, 1) := by decide +kernel
theorem dX6_addReader_5 : decode cX6_addReader 5 = .ok (.getfield 134, 3) := by decide +kernel
theorem dX6_addReader_8 : decode cX6_addReader 8 = .ok (.iload_n 1, 1) := by decide +kernel
theorem dX6_addReader_9 : decode cX6_addReader 9 = .ok (.iastore, 1) := by decide +kernel
theorem dX6_addReader_10 : decode cX6_addReader 10 = .ok (.aload_n 0, 1) := by decide +kernel
theorem dX6_addReader_11 : decode cX6_addReader 11 = .ok (.getfield 42, 3) := by decide +kernel
theorem dX6_addReader_14 : decode cX6_addReader 14 = .ok (.aload_n 0, 1) := by decide +kernel
theorem dX6_addReader_15 : decode cX6_addReader 15 = .ok (.getfield 134, 3) := by decide +kernel
theorem dX6_addReader_18 : decode cX6_addReader 18 = .ok (.iload_n 2, 1) := by decide +kernel
theorem dX6_addReader_19 : decode cX6_addReader 19 = .ok (.iastore, 1) := by decide +kernel
theorem dX6_addReader_20 : decode cX6_addReader 20 = .ok (.aload_n 0, 1) := by decide +kernel
theorem dX6_addReader_21 : decode cX6_addReader 21 = .ok (.getfield 45, 3) := by decide +kernel
theorem dX6_addReader_24 : decode cX6_addReader 24 = .ok (.aload_n 0, 1) := by decide +kernel
theorem dX6_addReader_25 : decode cX6_addReader 25 = .ok (.getfield 134, 3) := by decide +kernel
theorem dX6_addReader_28 : decode cX6_addReader 28 = .ok (.lload_n 3, 1) := by decide +kernel
theorem dX6_addReader_29 : decode cX6_addReader 29 = .ok (.lastore, 1) := by decide +kernel
theorem dX6_addReader_30 : decode cX6_addReader 30 = .ok (.aload_n 0, 1) := by decide +kernel
theorem dX6_addReader_31 : decode cX6_addReader 31 = .ok (.getfield 48, 3) := by decide +kernel
theorem dX6_addReader_34 : decode cX6_addReader 34 = .ok (.aload_n 0, 1) := by decide +kernel
theorem dX6_addReader_35 : decode cX6_addReader 35 = .ok (.getfield 134, 3) := by decide +kernel
theorem dX6_addReader_38 : decode cX6_addReader 38 = .ok (.iload 5, 2) := by decide +kernel
theorem dX6_addReader_40 : decode cX6_addReader 40 = .ok (.bastore, 1) := by decide +kernel
theorem dX6_addReader_41 : decode cX6_addReader 41 = .ok (.aload_n 0, 1) := by decide +kernel
theorem dX6_addReader_42 : decode cX6_addReader 42 = .ok (.getfield 72, 3) := by decide +kernel
theorem dX6_addReader_45 : decode cX6_addReader 45 = .ok (.aload_n 0, 1) := by decide +kernel
theorem dX6_addReader_46 : decode cX6_addReader 46 = .ok (.getfield 134, 3) := by decide +kernel
theorem dX6_addReader_49 : decode cX6_addReader 49 = .ok (.iconst (-1), 1) := by decide +kernel
theorem dX6_addReader_50 : decode cX6_addReader 50 = .ok (.iastore, 1) := by decide +kernel
theorem dX6_addReader_51 : decode cX6_addReader 51 = .ok (.aload_n 0, 1) := by decide +kernel
theorem dX6_addReader_52 : decode cX6_addReader 52 = .ok (.dup, 1) := by decide +kernel
theorem dX6_addReader_53 : decode cX6_addReader 53 = .ok (.getfield 134, 3) := by decide +kernel
theorem dX6_addReader_56 : decode cX6_addReader 56 = .ok (.iconst 1, 1) := by decide +kernel
theorem dX6_addReader_57 : decode cX6_addReader 57 = .ok (.iadd, 1) := by decide +kernel
theorem dX6_addReader_58 : decode cX6_addReader 58 = .ok (.putfield 134, 3) := by decide +kernel
theorem dX6_addReader_61 : decode cX6_addReader 61 = .ok (.aload_n 0, 1) := by decide +kernel
theorem dX6_addReader_62 : decode cX6_addReader 62 = .ok (.getfield 134, 3) := by decide +kernel
theorem dX6_addReader_65 : decode cX6_addReader 65 = .ok (.iconst 1, 1) := by decide +kernel
theorem dX6_addReader_66 : decode cX6_addReader 66 = .ok (.isub, 1) := by decide +kernel
theorem dX6_addReader_67 : decode cX6_addReader 67 = .ok (.ireturn, 1) := by decide +kernel
set_option maxRecDepth 20000 in
theorem ggX6_cursor_X6_isView : GoodIn wsX6_cursor wsX6_isView := goodIn_r _ [13, 14, 31, 32, 33, 34, 35, 36, 37, 38, 39, 40, 41, 42, 43, 44, 45, 46, 47, 48, 49, 50, 51, 52, 53, 54, 55, 56, 57, 58, 59, 60] (by decide +kernel) (by decide +kernel)
set_option maxRecDepth 20000 in
theorem gX6_cursor_X6_isView : GoodIn wsX6_cursor (wsV RX6 137 RX6 yX6_isView wsX6_isView) := goodIn_app (goodIn_of _ (by decide +kernel)) ggX6_cursor_X6_isView
set_option maxRecDepth 20000 in
theorem ggX6_cursor_X6_fails : GoodIn wsX6_cursor wsX6_fails := goodIn_r _ [18, 1, 31, 32, 33, 34, 35, 36, 37, 38, 39, 40, 41, 42, 43, 44, 45, 46, 47, 48, 49, 50, 51, 52, 53, 54, 55, 56, 57, 58, 59, 60] (by decide +kernel) (by decide +kernel)
set_option maxRecDepth 20000 in
theorem gX6_cursor_X6_fails : GoodIn wsX6_cursor (wsV RX6 131 RX6 yX6_fails wsX6_fails) := goodIn_app (goodIn_of _ (by decide +kernel)) ggX6_cursor_X6_fails
set_option maxRecDepth 20000 in
theorem ggX6_cursor_X6_isKind : GoodIn wsX6_cursor wsX6_isKind := goodIn_r _ [21] (by decide +kernel) (by decide +kernel)
set_option maxRecDepth 20000 in
theorem gX6_cursor_X6_isKind : GoodIn wsX6_cursor (va_wsS RX6 151 yX6_isKind wsX6_isKind) := goodIn_app (goodIn_of _ (by decide +kernel)) ggX6_cursor_X6_isKind
set_option maxRecDepth 20000 in
theorem ggX6_cursor_X6_addReader : GoodIn wsX6_cursor wsX6_addReader := goodIn_r _ [25, 26, 3, 27, 28, 29, 30, 31, 32, 33, 34, 35, 36, 37, 38, 39, 40, 41, 42, 43, 44, 45, 46, 47, 48, 49, 50, 51, 52, 53, 54, 55, 56, 57, 58, 59, 60] (by decide +kernel) (by decide +kernel)
set_option maxRecDepth 20000 in
theorem gX6_cursor_X6_addReader : GoodIn wsX6_cursor (wsV RX6 186 RX6 yX6_addReader wsX6_addReader) := goodIn_app (goodIn_of _ (by decide +kernel)) ggX6_cursor_X6_addReader
theorem dX6_cursor_0 : decode cX6_cursor 0 = .ok (.aload_n 0, 1) := by decide +kernel
theorem dX6_cursor_1 : decode cX6_cursor 1 = .ok (.iconst 0, 1) := by decide +kernel
theorem dX6_cursor_2 : decode cX6_cursor 2 = .ok (.putfield 81, 3) := by decide +kernel
theorem dX6_cursor_5 : decode cX6_cursor 5 = .ok (.aload_n 0, 1) := by decide +kernel
theorem dX6_cursor_6 : decode cX6_cursor 6 = .ok (.iload_n 1, 1) := by decide +kernel
theorem dX6_cursor_7 : decode cX6_cursor 7 = .ok (.invokevirtual 137, 3) := by decide +kernel
theorem dX6_cursor_10 : decode cX6_cursor 10 = .ok (.ifCond .ne 9, 3) := by decide +kernel
theorem dX6_cursor_13 : decode cX6_cursor 13 = .ok (.aload_n 0, 1) := by decide +kernel
theorem dX6_cursor_14 : decode cX6_cursor 14 = .ok (.iconst 1, 1) := by decide +kernel
theorem dX6_cursor_15 : decode cX6_cursor 15 = .ok (.invokevirtual 131, 3) := by decide +kernel
theorem dX6_cursor_18 : decode cX6_cursor 18 = .ok (.ireturn, 1) := by decide +kernel
theorem dX6_cursor_19 : decode cX6_cursor 19 = .ok (.iload_n 2, 1) := by decide +kernel
theorem dX6_cursor_20 : decode cX6_cursor 20 = .ok (.invokestatic 151, 3) := by decide +kernel
theorem dX6_cursor_23 : decode cX6_cursor 23 = .ok (.ifCond .eq 42, 3) := by decide +kernel
theorem dX6_cursor_26 : decode cX6_cursor 26 = .ok (.iload 5, 2) := by decide +kernel
theorem dX6_cursor_28 : decode cX6_cursor 28 = .ok (.iconst 1, 1) := by decide +kernel
theorem dX6_cursor_29 : decode cX6_cursor 29 = .ok (.if_icmp .lt 36, 3) := by decide +kernel
theorem dX6_cursor_32 : decode cX6_cursor 32 = .ok (.iload 5, 2) := by decide +kernel
theorem dX6_cursor_34 : decode cX6_cursor 34 = .ok (.bipush 8, 2) := by decide +kernel
theorem dX6_cursor_36 : decode cX6_cursor 36 = .ok (.if_icmp .gt 29, 3) := by decide +kernel
theorem dX6_cursor_39 : decode cX6_cursor 39 = .ok (.iload 6, 2) := by decide +kernel
theorem dX6_cursor_41 : decode cX6_cursor 41 = .ok (.ifCond .lt 24, 3) := by decide +kernel
theorem dX6_cursor_44 : decode cX6_cursor 44 = .ok (.iload 6, 2) := by decide +kernel
theorem dX6_cursor_46 : decode cX6_cursor 46 = .ok (.iload 5, 2) := by decide +kernel
theorem dX6_cursor_48 : decode cX6_cursor 48 = .ok (.if_icmp .ge 17, 3) := by decide +kernel
theorem dX6_cursor_51 : decode cX6_cursor 51 = .ok (.iload 7, 2) := by decide +kernel
theorem dX6_cursor_53 : decode cX6_cursor 53 = .ok (.iconst 1, 1) := by decide +kernel
theorem dX6_cursor_54 : decode cX6_cursor 54 = .ok (.if_icmp .lt 11, 3) := by decide +kernel
theorem dX6_cursor_57 : decode cX6_cursor 57 = .ok (.iload 7, 2) := by decide +kernel
theorem dX6_cursor_59 : decode cX6_cursor 59 = .ok (.sipush 1000, 3) := by decide +kernel
theorem dX6_cursor_62 : decode cX6_cursor 62 = .ok (.if_icmp .le 9, 3) := by decide +kernel
theorem dX6_cursor_65 : decode cX6_cursor 65 = .ok (.aload_n 0, 1) := by decide +kernel
theorem dX6_cursor_66 : decode cX6_cursor 66 = .ok (.iconst 2, 1) := by decide +kernel
theorem dX6_cursor_67 : decode cX6_cursor 67 = .ok (.invokevirtual 131, 3) := by decide +kernel
theorem dX6_cursor_70 : decode cX6_cursor 70 = .ok (.ireturn, 1) := by decide +kernel
theorem dX6_cursor_71 : decode cX6_cursor 71 = .ok (.aload_n 0, 1) := by decide +kernel
theorem dX6_cursor_72 : decode cX6_cursor 72 = .ok (.getfield 30, 3) := by decide +kernel
theorem dX6_cursor_75 : decode cX6_cursor 75 = .ok (.iload_n 1, 1) := by decide +kernel
theorem dX6_cursor_76 : decode cX6_cursor 76 = .ok (.iaload, 1) := by decide +kernel
theorem dX6_cursor_77 : decode cX6_cursor 77 = .ok (.ifCond .eq 9, 3) := by decide +kernel
theorem dX6_cursor_80 : decode cX6_cursor 80 = .ok (.aload_n 0, 1) := by decide +kernel
theorem dX6_cursor_81 : decode cX6_cursor 81 = .ok (.iconst 3, 1) := by decide +kernel
theorem dX6_cursor_82 : decode cX6_cursor 82 = .ok (.invokevirtual 131, 3) := by decide +kernel
theorem dX6_cursor_85 : decode cX6_cursor 85 = .ok (.ireturn, 1) := by decide +kernel
theorem dX6_cursor_86 : decode cX6_cursor 86 = .ok (.aload_n 0, 1) := by decide +kernel
theorem dX6_cursor_87 : decode cX6_cursor 87 = .ok (.getfield 134, 3) := by decide +kernel
theorem dX6_cursor_90 : decode cX6_cursor 90 = .ok (.bipush 60, 2) := by decide +kernel
theorem dX6_cursor_92 : decode cX6_cursor 92 = .ok (.if_icmp .ne 6, 3) := by decide +kernel
theorem dX6_cursor_95 : decode cX6_cursor 95 = .ok (.bipush (-4), 2) := by decide +kernel
theorem dX6_cursor_97 : decode cX6_cursor 97 = .ok (.ireturn, 1) := by decide +kernel
theorem dX6_cursor_98 : decode cX6_cursor 98 = .ok (.aload_n 0, 1) := by decide +kernel
theorem dX6_cursor_99 : decode cX6_cursor 99 = .ok (.iload_n 1, 1) := by decide +kernel
theorem dX6_cursor_100 : decode cX6_cursor 100 = .ok (.iload_n 2, 1) := by decide +kernel
theorem dX6_cursor_101 : decode cX6_cursor 101 = .ok (.lload_n 3, 1) := by decide +kernel
theorem dX6_cursor_102 : decode cX6_cursor 102 = .ok (.iconst 1, 1) := by decide +kernel
theorem dX6_cursor_103 : decode cX6_cursor 103 = .ok (.invokevirtual 186, 3) := by decide +kernel
theorem dX6_cursor_106 : decode cX6_cursor 106 = .ok (.istore 8, 2) := by decide +kernel
theorem dX6_cursor_108 : decode cX6_cursor 108 = .ok (.aload_n 0, 1) := by decide +kernel
theorem dX6_cursor_109 : decode cX6_cursor 109 = .ok (.getfield 51, 3) := by decide +kernel
theorem dX6_cursor_112 : decode cX6_cursor 112 = .ok (.iload 8, 2) := by decide +kernel
theorem dX6_cursor_114 : decode cX6_cursor 114 = .ok (.iload 5, 2) := by decide +kernel
theorem dX6_cursor_116 : decode cX6_cursor 116 = .ok (.iastore, 1) := by decide +kernel
theorem dX6_cursor_117 : decode cX6_cursor 117 = .ok (.aload_n 0, 1) := by decide +kernel
theorem dX6_cursor_118 : decode cX6_cursor 118 = .ok (.getfield 54, 3) := by decide +kernel
theorem dX6_cursor_121 : decode cX6_cursor 121 = .ok (.iload 8, 2) := by decide +kernel
theorem dX6_cursor_123 : decode cX6_cursor 123 = .ok (.iload 6, 2) := by decide +kernel
theorem dX6_cursor_125 : decode cX6_cursor 125 = .ok (.iastore, 1) := by decide +kernel
theorem dX6_cursor_126 : decode cX6_cursor 126 = .ok (.aload_n 0, 1) := by decide +kernel
theorem dX6_cursor_127 : decode cX6_cursor 127 = .ok (.getfield 57, 3) := by decide +kernel
theorem dX6_cursor_130 : decode cX6_cursor 130 = .ok (.iload 8, 2) := by decide +kernel
theorem dX6_cursor_132 : decode cX6_cursor 132 = .ok (.iload 7, 2) := by decide +kernel
theorem dX6_cursor_134 : decode cX6_cursor 134 = .ok (.iastore, 1) := by decide +kernel
theorem dX6_cursor_135 : decode cX6_cursor 135 = .ok (.aload_n 0, 1) := by decide +kernel
theorem dX6_cursor_136 : decode cX6_cursor 136 = .ok (.getfield 60, 3) := by decide +kernel
theorem dX6_cursor_139 : decode cX6_cursor 139 = .ok (.iload 8, 2) := by decide +kernel
theorem dX6_cursor_141 : decode cX6_cursor 141 = .ok (.aload_n 0, 1) := by decide +kernel
theorem dX6_cursor_142 : decode cX6_cursor 142 = .ok (.getfield 190, 3) := by decide +kernel
theorem dX6_cursor_145 : decode cX6_cursor 145 = .ok (.iload 7, 2) := by decide +kernel
theorem dX6_cursor_147 : decode cX6_cursor 147 = .ok (.iadd, 1) := by decide +kernel
theorem dX6_cursor_148 : decode cX6_cursor 148 = .ok (.iastore, 1) := by decide +kernel
theorem dX6_cursor_149 : decode cX6_cursor 149 = .ok (.iload 8, 2) := by decide +kernel
theorem dX6_cursor_151 : decode cX6_cursor 151 = .ok (.ireturn, 1) := by decide +kernel
set_option maxRecDepth 20000 in
theorem ggX6_iterator_X6_isView : GoodIn wsX6_iterator wsX6_isView := goodIn_r _ [12, 13, 77, 78, 79, 80, 81, 82, 83, 84, 85, 86, 87, 88, 89, 90, 91, 92, 93, 94, 95, 96, 97, 98, 99, 100, 101, 102, 103, 104, 105, 106] (by decide +kernel) (by decide +kernel)
set_option maxRecDepth 20000 in
theorem gX6_iterator_X6_isView : GoodIn wsX6_iterator (wsV RX6 137 RX6 yX6_isView wsX6_isView) := goodIn_app (goodIn_of _ (by decide +kernel)) ggX6_iterator_X6_isView
set_option maxRecDepth 20000 in
theorem ggX6_iterator_X6_groupCount : GoodIn wsX6_iterator wsX6_groupCount := goodIn_r _ [17, 18, 19, 20, 21, 11, 22, 6, 23, 24, 25, 26, 27, 28, 29, 30, 31, 32, 33, 34, 35, 36, 37, 38, 39, 40, 77, 78, 79, 80, 81, 82, 83, 84, 85, 86, 87, 88, 89, 90, 91, 92, 93, 94, 95, 96, 97, 98, 99, 100, 101, 102, 103, 104, 105, 106] (by decide +kernel) (by decide +kernel)
set_option maxRecDepth 20000 in
theorem gX6_iterator_X6_groupCount : GoodIn wsX6_iterator (wsV RX6 158 RX6 yX6_groupCount wsX6_groupCount) := goodIn_app (goodIn_of _ (by decide +kernel)) ggX6_iterator_X6_groupCount
set_option maxRecDepth 20000 in
theorem ggX6_iterator_X6_fails : GoodIn wsX6_iterator wsX6_fails := goodIn_r _ [44, 1, 77, 78, 79, 80, 81, 82, 83, 84, 85, 86, 87, 88, 89, 90, 91, 92, 93, 94, 95, 96, 97, 98, 99, 100, 101, 102, 103, 104, 105, 106] (by decide +kernel) (by decide +kernel)
set_option maxRecDepth 20000 in
theorem gX6_iterator_X6_fails : GoodIn wsX6_iterator (wsV RX6 131 RX6 yX6_fails wsX6_fails) := goodIn_app (goodIn_of _ (by decide +kernel)) ggX6_iterator_X6_fails
set_option maxRecDepth 20000 in
theorem ggX6_iterator_X6_isKind : GoodIn wsX6_iterator wsX6_isKind := goodIn_r _ [47] (by decide +kernel) (by decide +kernel)
set_option maxRecDepth 20000 in
theorem gX6_iterator_X6_isKind : GoodIn wsX6_iterator (va_wsS RX6 151 yX6_isKind wsX6_isKind) := goodIn_app (goodIn_of _ (by decide +kernel)) ggX6_iterator_X6_isKind
set_option maxRecDepth 20000 in
theorem ggX6_iterator_X6_addReader : GoodIn wsX6_iterator wsX6_addReader := goodIn_r _ [51, 52, 3, 53, 54, 55, 56, 77, 78, 79, 80, 81, 82, 83, 84, 85, 86, 87, 88, 89, 90, 91, 92, 93, 94, 95, 96, 97, 98, 99, 100, 101, 102, 103, 104, 105, 106] (by decide +kernel) (by decide +kernel)
set_option maxRecDepth 20000 in
theorem gX6_iterator_X6_addReader : GoodIn wsX6_iterator (wsV RX6 186 RX6 yX6_addReader wsX6_addReader) := goodIn_app (goodIn_of _ (by decide +kernel)) ggX6_iterator_X6_addReader
set_option maxRecDepth 20000 in
theorem ggX6_iterator_X6_leader : GoodIn wsX6_iterator wsX6_leader := goodIn_r _ [60, 18, 61, 19, 20, 21, 11, 22, 6, 23, 24, 25, 26, 27, 28, 29, 30, 31, 32, 33, 34, 35, 36, 37, 38, 39, 40, 77, 78, 79, 80, 81, 82, 83, 84, 85, 86, 87, 88, 89, 90, 91, 92, 93, 94, 95, 96, 97, 98, 99, 100, 101, 102, 103, 104, 105, 106] (by decide +kernel) (by decide +kernel)
set_option maxRecDepth 20000 in
theorem gX6_iterator_X6_leader : GoodIn wsX6_iterator (wsV RX6 165 RX6 yX6_leader wsX6_leader) := goodIn_app (goodIn_of _ (by decide +kernel)) ggX6_iterator_X6_leader
set_option maxRecDepth 20000 in
theorem ggX6_iterator_X6_nextOf : GoodIn wsX6_iterator wsX6_nextOf := goodIn_r _ [65, 52, 53, 54, 56, 4, 5, 55, 66, 67, 68, 69, 70, 11, 71, 18, 6, 23, 24, 25, 26, 27, 72, 73, 74, 75, 33, 76, 35, 36, 37, 38, 39, 40, 28, 29, 30, 31, 32, 34, 77, 78, 79, 80, 81, 82, 83, 84, 85, 86, 87, 88, 89, 90, 91, 92, 93, 94, 95, 96, 97, 98, 99, 100, 101, 102, 103, 104, 105, 106] (by decide +kernel) (by decide +kernel)
set_option maxRecDepth 20000 in
theorem gX6_iterator_X6_nextOf : GoodIn wsX6_iterator (wsV RX6 183 RX6 yX6_nextOf wsX6_nextOf) := goodIn_app (goodIn_of _ (by decide +kernel)) ggX6_iterator_X6_nextOf
theorem dX6_iterator_0 : decode cX6_iterator 0 = .ok (.aload_n 0, 1) := by decide +kernel
theorem dX6_iterator_1 : decode cX6_iterator 1 = .ok (.iconst 0, 1) := by decide +kernel
theorem dX6_iterator_2 : decode cX6_iterator 2 = .ok (.putfield 81, 3) := by decide +kernel
theorem dX6_iterator_5 : decode cX6_iterator 5 = .ok (.aload_n 0, 1) := by decide +kernel
theorem dX6_iterator_6 : decode cX6_iterator 6 = .ok (.iload_n 1, 1) := by decide +kernel
theorem dX6_iterator_7 : decode cX6_iterator 7 = .ok (.invokevirtual 137, 3) := by decide +kernel
theorem dX6_iterator_10 : decode cX6_iterator 10 = .ok (.ifCond .eq 19, 3) := by decide +kernel
theorem dX6_iterator_13 : decode cX6_iterator 13 = .ok (.iload 5, 2) := by decide +kernel
theorem dX6_iterator_15 : decode cX6_iterator 15 = .ok (.iconst (-1), 1) := by decide +kernel
theorem dX6_iterator_16 : decode cX6_iterator 16 = .ok (.if_icmp .lt 13, 3) := by decide +kernel
theorem dX6_iterator_19 : decode cX6_iterator 19 = .ok (.iload 5, 2) := by decide +kernel
theorem dX6_iterator_21 : decode cX6_iterator 21 = .ok (.aload_n 0, 1) := by decide +kernel
theorem dX6_iterator_22 : decode cX6_iterator 22 = .ok (.iload_n 1, 1) := by decide +kernel
theorem dX6_iterator_23 : decode cX6_iterator 23 = .ok (.invokevirtual 158, 3) := by decide +kernel
theorem dX6_iterator_26 : decode cX6_iterator 26 = .ok (.if_icmp .lt 9, 3) := by decide +kernel
theorem dX6_iterator_29 : decode cX6_iterator 29 = .ok (.aload_n 0, 1) := by decide +kernel
theorem dX6_iterator_30 : decode cX6_iterator 30 = .ok (.iconst 1, 1) := by decide +kernel
theorem dX6_iterator_31 : decode cX6_iterator 31 = .ok (.invokevirtual 131, 3) := by decide +kernel
theorem dX6_iterator_34 : decode cX6_iterator 34 = .ok (.ireturn, 1) := by decide +kernel
theorem dX6_iterator_35 : decode cX6_iterator 35 = .ok (.iload_n 2, 1) := by decide +kernel
theorem dX6_iterator_36 : decode cX6_iterator 36 = .ok (.invokestatic 151, 3) := by decide +kernel
theorem dX6_iterator_39 : decode cX6_iterator 39 = .ok (.ifCond .ne 9, 3) := by decide +kernel
theorem dX6_iterator_42 : decode cX6_iterator 42 = .ok (.aload_n 0, 1) := by decide +kernel
theorem dX6_iterator_43 : decode cX6_iterator 43 = .ok (.iconst 2, 1) := by decide +kernel
theorem dX6_iterator_44 : decode cX6_iterator 44 = .ok (.invokevirtual 131, 3) := by decide +kernel
theorem dX6_iterator_47 : decode cX6_iterator 47 = .ok (.ireturn, 1) := by decide +kernel
theorem dX6_iterator_48 : decode cX6_iterator 48 = .ok (.aload_n 0, 1) := by decide +kernel
theorem dX6_iterator_49 : decode cX6_iterator 49 = .ok (.getfield 30, 3) := by decide +kernel
theorem dX6_iterator_52 : decode cX6_iterator 52 = .ok (.iload_n 1, 1) := by decide +kernel
theorem dX6_iterator_53 : decode cX6_iterator 53 = .ok (.iaload, 1) := by decide +kernel
theorem dX6_iterator_54 : decode cX6_iterator 54 = .ok (.ifCond .eq 9, 3) := by decide +kernel
theorem dX6_iterator_57 : decode cX6_iterator 57 = .ok (.aload_n 0, 1) := by decide +kernel
theorem dX6_iterator_58 : decode cX6_iterator 58 = .ok (.iconst 3, 1) := by decide +kernel
theorem dX6_iterator_59 : decode cX6_iterator 59 = .ok (.invokevirtual 131, 3) := by decide +kernel
theorem dX6_iterator_62 : decode cX6_iterator 62 = .ok (.ireturn, 1) := by decide +kernel
theorem dX6_iterator_63 : decode cX6_iterator 63 = .ok (.aload_n 0, 1) := by decide +kernel
theorem dX6_iterator_64 : decode cX6_iterator 64 = .ok (.getfield 134, 3) := by decide +kernel
theorem dX6_iterator_67 : decode cX6_iterator 67 = .ok (.bipush 60, 2) := by decide +kernel
theorem dX6_iterator_69 : decode cX6_iterator 69 = .ok (.if_icmp .ne 6, 3) := by decide +kernel
theorem dX6_iterator_72 : decode cX6_iterator 72 = .ok (.bipush (-4), 2) := by decide +kernel
theorem dX6_iterator_74 : decode cX6_iterator 74 = .ok (.ireturn, 1) := by decide +kernel
theorem dX6_iterator_75 : decode cX6_iterator 75 = .ok (.aload_n 0, 1) := by decide +kernel
theorem dX6_iterator_76 : decode cX6_iterator 76 = .ok (.iload_n 1, 1) := by decide +kernel
theorem dX6_iterator_77 : decode cX6_iterator 77 = .ok (.iload_n 2, 1) := by decide +kernel
theorem dX6_iterator_78 : decode cX6_iterator 78 = .ok (.lload_n 3, 1) := by decide +kernel
theorem dX6_iterator_79 : decode cX6_iterator 79 = .ok (.iconst 0, 1) := by decide +kernel
theorem dX6_iterator_80 : decode cX6_iterator 80 = .ok (.invokevirtual 186, 3) := by decide +kernel
theorem dX6_iterator_83 : decode cX6_iterator 83 = .ok (.istore 6, 2) := by decide +kernel
theorem dX6_iterator_85 : decode cX6_iterator 85 = .ok (.aload_n 0, 1) := by decide +kernel
theorem dX6_iterator_86 : decode cX6_iterator 86 = .ok (.getfield 63, 3) := by decide +kernel
theorem dX6_iterator_89 : decode cX6_iterator 89 = .ok (.iload 6, 2) := by decide +kernel
theorem dX6_iterator_91 : decode cX6_iterator 91 = .ok (.iload 5, 2) := by decide +kernel
theorem dX6_iterator_93 : decode cX6_iterator 93 = .ok (.ifCond .lt 7, 3) := by decide +kernel
theorem dX6_iterator_96 : decode cX6_iterator 96 = .ok (.iconst 1, 1) := by decide +kernel
theorem dX6_iterator_97 : decode cX6_iterator 97 = .ok (.goto 4, 3) := by decide +kernel
theorem dX6_iterator_100 : decode cX6_iterator 100 = .ok (.iconst 0, 1) := by decide +kernel
theorem dX6_iterator_101 : decode cX6_iterator 101 = .ok (.bastore, 1) := by decide +kernel
theorem dX6_iterator_102 : decode cX6_iterator 102 = .ok (.aload_n 0, 1) := by decide +kernel
theorem dX6_iterator_103 : decode cX6_iterator 103 = .ok (.getfield 66, 3) := by decide +kernel
theorem dX6_iterator_106 : decode cX6_iterator 106 = .ok (.iload 6, 2) := by decide +kernel
theorem dX6_iterator_108 : decode cX6_iterator 108 = .ok (.iload 5, 2) := by decide +kernel
theorem dX6_iterator_110 : decode cX6_iterator 110 = .ok (.ifCond .lt 20, 3) := by decide +kernel
theorem dX6_iterator_113 : decode cX6_iterator 113 = .ok (.aload_n 0, 1) := by decide +kernel
theorem dX6_iterator_114 : decode cX6_iterator 114 = .ok (.getfield 7, 3) := by decide +kernel
theorem dX6_iterator_117 : decode cX6_iterator 117 = .ok (.aload_n 0, 1) := by decide +kernel
theorem dX6_iterator_118 : decode cX6_iterator 118 = .ok (.iload_n 1, 1) := by decide +kernel
theorem dX6_iterator_119 : decode cX6_iterator 119 = .ok (.iload_n 2, 1) := by decide +kernel
theorem dX6_iterator_120 : decode cX6_iterator 120 = .ok (.lload_n 3, 1) := by decide +kernel
theorem dX6_iterator_121 : decode cX6_iterator 121 = .ok (.iload 5, 2) := by decide +kernel
theorem dX6_iterator_123 : decode cX6_iterator 123 = .ok (.invokevirtual 165, 3) := by decide +kernel
theorem dX6_iterator_126 : decode cX6_iterator 126 = .ok (.laload, 1) := by decide +kernel
theorem dX6_iterator_127 : decode cX6_iterator 127 = .ok (.goto 4, 3) := by decide +kernel
theorem dX6_iterator_130 : decode cX6_iterator 130 = .ok (.lconst 0, 1) := by decide +kernel
theorem dX6_iterator_131 : decode cX6_iterator 131 = .ok (.lastore, 1) := by decide +kernel
theorem dX6_iterator_132 : decode cX6_iterator 132 = .ok (.aload_n 0, 1) := by decide +kernel
theorem dX6_iterator_133 : decode cX6_iterator 133 = .ok (.getfield 69, 3) := by decide +kernel
theorem dX6_iterator_136 : decode cX6_iterator 136 = .ok (.iload 6, 2) := by decide +kernel
theorem dX6_iterator_138 : decode cX6_iterator 138 = .ok (.aload_n 0, 1) := by decide +kernel
theorem dX6_iterator_139 : decode cX6_iterator 139 = .ok (.iload 6, 2) := by decide +kernel
theorem dX6_iterator_141 : decode cX6_iterator 141 = .ok (.invokevirtual 183, 3) := by decide +kernel
theorem dX6_iterator_144 : decode cX6_iterator 144 = .ok (.ifCond .ge 7, 3) := by decide +kernel
theorem dX6_iterator_147 : decode cX6_iterator 147 = .ok (.iconst 1, 1) := by decide +kernel
theorem dX6_iterator_148 : decode cX6_iterator 148 = .ok (.goto 4, 3) := by decide +kernel
theorem dX6_iterator_151 : decode cX6_iterator 151 = .ok (.iconst 0, 1) := by decide +kernel
theorem dX6_iterator_152 : decode cX6_iterator 152 = .ok (.bastore, 1) := by decide +kernel
theorem dX6_iterator_153 : decode cX6_iterator 153 = .ok (.iload 6, 2) := by decide +kernel
theorem dX6_iterator_155 : decode cX6_iterator 155 = .ok (.ireturn, 1) := by decide +kernel
set_option maxRecDepth 20000 in
theorem ggX6_take_X6_isReader : GoodIn wsX6_take wsX6_isReader := goodIn_r _ [14, 15, 60, 61, 62, 63, 64, 65, 66, 67, 68, 69, 70, 71, 72, 73, 74, 75, 76, 77, 78, 79, 80, 81, 82, 83, 84, 85, 86, 87, 88, 89] (by decide +kernel) (by decide +kernel)
set_option maxRecDepth 20000 in
theorem gX6_take_X6_isReader : GoodIn wsX6_take (wsV RX6 193 RX6 yX6_isReader wsX6_isReader) := goodIn_app (goodIn_of _ (by decide +kernel)) ggX6_take_X6_isReader
set_option maxRecDepth 20000 in
theorem ggX6_take_X6_fails : GoodIn wsX6_take wsX6_fails := goodIn_r _ [19, 1, 60, 61, 62, 63, 64, 65, 66, 67, 68, 69, 70, 71, 72, 73, 74, 75, 76, 77, 78, 79, 80, 81, 82, 83, 84, 85, 86, 87, 88, 89] (by decide +kernel) (by decide +kernel)
set_option maxRecDepth 20000 in
theorem gX6_take_X6_fails : GoodIn wsX6_take (wsV RX6 131 RX6 yX6_fails wsX6_fails) := goodIn_app (goodIn_of _ (by decide +kernel)) ggX6_take_X6_fails
set_option maxRecDepth 20000 in
theorem ggX6_take_X6_nextOf : GoodIn wsX6_take wsX6_nextOf := goodIn_r _ [23, 24, 25, 26, 6, 27, 28, 2, 29, 30, 31, 32, 33, 13, 34, 35, 36, 37, 38, 39, 40, 41, 42, 43, 44, 45, 46, 47, 48, 49, 50, 51, 52, 53, 54, 55, 56, 57, 58, 59, 60, 61, 62, 63, 64, 65, 66, 67, 68, 69, 70, 71, 72, 73, 74, 75, 76, 77, 78, 79, 80, 81, 82, 83, 84, 85, 86, 87, 88, 89] (by decide +kernel) (by decide +kernel)
set_option maxRecDepth 20000 in
theorem gX6_take_X6_nextOf : GoodIn wsX6_take (wsV RX6 183 RX6 yX6_nextOf wsX6_nextOf) := goodIn_app (goodIn_of _ (by decide +kernel)) ggX6_take_X6_nextOf
theorem dX6_take_0 : decode cX6_take 0 = .ok (.aload_n 0, 1) := by decide +kernel
theorem dX6_take_1 : decode cX6_take 1 = .ok (.iconst 0, 1) := by decide +kernel
theorem dX6_take_2 : decode cX6_take 2 = .ok (.putfield 81, 3) := by decide +kernel
theorem dX6_take_5 : decode cX6_take 5 = .ok (.aload_n 0, 1) := by decide +kernel
theorem dX6_take_6 : decode cX6_take 6 = .ok (.iload_n 1, 1) := by decide +kernel
theorem dX6_take_7 : decode cX6_take 7 = .ok (.invokevirtual 193, 3) := by decide +kernel
theorem dX6_take_10 : decode cX6_take 10 = .ok (.ifCond .ne 9, 3) := by decide +kernel
theorem dX6_take_13 : decode cX6_take 13 = .ok (.aload_n 0, 1) := by decide +kernel
theorem dX6_take_14 : decode cX6_take 14 = .ok (.iconst 1, 1) := by decide +kernel
theorem dX6_take_15 : decode cX6_take 15 = .ok (.invokevirtual 131, 3) := by decide +kernel
theorem dX6_take_18 : decode cX6_take 18 = .ok (.ireturn, 1) := by decide +kernel
theorem dX6_take_19 : decode cX6_take 19 = .ok (.iload_n 2, 1) := by decide +kernel
theorem dX6_take_20 : decode cX6_take 20 = .ok (.iconst 1, 1) := by decide +kernel
theorem dX6_take_21 : decode cX6_take 21 = .ok (.if_icmp .lt 18, 3) := by decide +kernel
theorem dX6_take_24 : decode cX6_take 24 = .ok (.iload_n 2, 1) := by decide +kernel
theorem dX6_take_25 : decode cX6_take 25 = .ok (.bipush 50, 2) := by decide +kernel
theorem dX6_take_27 : decode cX6_take 27 = .ok (.if_icmp .gt 12, 3) := by decide +kernel
theorem dX6_take_30 : decode cX6_take 30 = .ok (.aload_n 0, 1) := by decide +kernel
theorem dX6_take_31 : decode cX6_take 31 = .ok (.getfield 48, 3) := by decide +kernel
theorem dX6_take_34 : decode cX6_take 34 = .ok (.iload_n 1, 1) := by decide +kernel
theorem dX6_take_35 : decode cX6_take 35 = .ok (.baload, 1) := by decide +kernel
theorem dX6_take_36 : decode cX6_take 36 = .ok (.ifCond .ne 9, 3) := by decide +kernel
theorem dX6_take_39 : decode cX6_take 39 = .ok (.aload_n 0, 1) := by decide +kernel
theorem dX6_take_40 : decode cX6_take 40 = .ok (.iconst 2, 1) := by decide +kernel
theorem dX6_take_41 : decode cX6_take 41 = .ok (.invokevirtual 131, 3) := by decide +kernel
theorem dX6_take_44 : decode cX6_take 44 = .ok (.ireturn, 1) := by decide +kernel
theorem dX6_take_45 : decode cX6_take 45 = .ok (.aload_n 0, 1) := by decide +kernel
theorem dX6_take_46 : decode cX6_take 46 = .ok (.getfield 69, 3) := by decide +kernel
theorem dX6_take_49 : decode cX6_take 49 = .ok (.iload_n 1, 1) := by decide +kernel
theorem dX6_take_50 : decode cX6_take 50 = .ok (.baload, 1) := by decide +kernel
theorem dX6_take_51 : decode cX6_take 51 = .ok (.ifCond .eq 5, 3) := by decide +kernel
theorem dX6_take_54 : decode cX6_take 54 = .ok (.iconst (-1), 1) := by decide +kernel
theorem dX6_take_55 : decode cX6_take 55 = .ok (.ireturn, 1) := by decide +kernel
theorem dX6_take_56 : decode cX6_take 56 = .ok (.aload_n 0, 1) := by decide +kernel
theorem dX6_take_57 : decode cX6_take 57 = .ok (.iconst 0, 1) := by decide +kernel
theorem dX6_take_58 : decode cX6_take 58 = .ok (.putfield 196, 3) := by decide +kernel
theorem dX6_take_61 : decode cX6_take 61 = .ok (.aload_n 0, 1) := by decide +kernel
theorem dX6_take_62 : decode cX6_take 62 = .ok (.iload_n 1, 1) := by decide +kernel
theorem dX6_take_63 : decode cX6_take 63 = .ok (.invokevirtual 183, 3) := by decide +kernel
theorem dX6_take_66 : decode cX6_take 66 = .ok (.istore_n 3, 1) := by decide +kernel
theorem dX6_take_67 : decode cX6_take 67 = .ok (.iload_n 3, 1) := by decide +kernel
theorem dX6_take_68 : decode cX6_take 68 = .ok (.ifCond .lt 59, 3) := by decide +kernel
theorem dX6_take_71 : decode cX6_take 71 = .ok (.aload_n 0, 1) := by decide +kernel
theorem dX6_take_72 : decode cX6_take 72 = .ok (.getfield 196, 3) := by decide +kernel
theorem dX6_take_75 : decode cX6_take 75 = .ok (.iload_n 2, 1) := by decide +kernel
theorem dX6_take_76 : decode cX6_take 76 = .ok (.if_icmp .ge 51, 3) := by decide +kernel
theorem dX6_take_79 : decode cX6_take 79 = .ok (.aload_n 0, 1) := by decide +kernel
theorem dX6_take_80 : decode cX6_take 80 = .ok (.getfield 75, 3) := by decide +kernel
theorem dX6_take_83 : decode cX6_take 83 = .ok (.aload_n 0, 1) := by decide +kernel
theorem dX6_take_84 : decode cX6_take 84 = .ok (.getfield 196, 3) := by decide +kernel
theorem dX6_take_87 : decode cX6_take 87 = .ok (.iload_n 3, 1) := by decide +kernel
theorem dX6_take_88 : decode cX6_take 88 = .ok (.iastore, 1) := by decide +kernel
theorem dX6_take_89 : decode cX6_take 89 = .ok (.aload_n 0, 1) := by decide +kernel
theorem dX6_take_90 : decode cX6_take 90 = .ok (.dup, 1) := by decide +kernel
theorem dX6_take_91 : decode cX6_take 91 = .ok (.getfield 196, 3) := by decide +kernel
theorem dX6_take_94 : decode cX6_take 94 = .ok (.iconst 1, 1) := by decide +kernel
theorem dX6_take_95 : decode cX6_take 95 = .ok (.iadd, 1) := by decide +kernel
theorem dX6_take_96 : decode cX6_take 96 = .ok (.putfield 196, 3) := by decide +kernel
theorem dX6_take_99 : decode cX6_take 99 = .ok (.aload_n 0, 1) := by decide +kernel
theorem dX6_take_100 : decode cX6_take 100 = .ok (.getfield 72, 3) := by decide +kernel
theorem dX6_take_103 : decode cX6_take 103 = .ok (.iload_n 1, 1) := by decide +kernel
theorem dX6_take_104 : decode cX6_take 104 = .ok (.iload_n 3, 1) := by decide +kernel
theorem dX6_take_105 : decode cX6_take 105 = .ok (.iastore, 1) := by decide +kernel
theorem dX6_take_106 : decode cX6_take 106 = .ok (.aload_n 0, 1) := by decide +kernel
theorem dX6_take_107 : decode cX6_take 107 = .ok (.getfield 196, 3) := by decide +kernel
theorem dX6_take_110 : decode cX6_take 110 = .ok (.iload_n 2, 1) := by decide +kernel
theorem dX6_take_111 : decode cX6_take 111 = .ok (.if_icmp .ge 11, 3) := by decide +kernel
theorem dX6_take_114 : decode cX6_take 114 = .ok (.aload_n 0, 1) := by decide +kernel
theorem dX6_take_115 : decode cX6_take 115 = .ok (.iload_n 1, 1) := by decide +kernel
theorem dX6_take_116 : decode cX6_take 116 = .ok (.invokevirtual 183, 3) := by decide +kernel
theorem dX6_take_119 : decode cX6_take 119 = .ok (.goto 4, 3) := by decide +kernel
theorem dX6_take_122 : decode cX6_take 122 = .ok (.iconst (-1), 1) := by decide +kernel
theorem dX6_take_123 : decode cX6_take 123 = .ok (.istore_n 3, 1) := by decide +kernel
theorem dX6_take_124 : decode cX6_take 124 = .ok (.goto (-57), 3) := by decide +kernel
theorem dX6_take_127 : decode cX6_take 127 = .ok (.aload_n 0, 1) := by decide +kernel
theorem dX6_take_128 : decode cX6_take 128 = .ok (.getfield 60, 3) := by decide +kernel
theorem dX6_take_131 : decode cX6_take 131 = .ok (.iload_n 1, 1) := by decide +kernel
theorem dX6_take_132 : decode cX6_take 132 = .ok (.aload_n 0, 1) := by decide +kernel
theorem dX6_take_133 : decode cX6_take 133 = .ok (.getfield 190, 3) := by decide +kernel
theorem dX6_take_136 : decode cX6_take 136 = .ok (.aload_n 0, 1) := by decide +kernel
theorem dX6_take_137 : decode cX6_take 137 = .ok (.getfield 57, 3) := by decide +kernel
theorem dX6_take_140 : decode cX6_take 140 = .ok (.iload_n 1, 1) := by decide +kernel
theorem dX6_take_141 : decode cX6_take 141 = .ok (.iaload, 1) := by decide +kernel
theorem dX6_take_142 : decode cX6_take 142 = .ok (.iadd, 1) := by decide +kernel
theorem dX6_take_143 : decode cX6_take 143 = .ok (.iastore, 1) := by decide +kernel
theorem dX6_take_144 : decode cX6_take 144 = .ok (.aload_n 0, 1) := by decide +kernel
theorem dX6_take_145 : decode cX6_take 145 = .ok (.getfield 196, 3) := by decide +kernel
theorem dX6_take_148 : decode cX6_take 148 = .ok (.ireturn, 1) := by decide +kernel
set_option maxRecDepth 20000 in
theorem ggX6_page_X6_fails : GoodIn wsX6_page wsX6_fails := goodIn_r _ [8, 1, 9, 10, 11, 12, 13, 14, 15, 16, 17, 18, 19, 20, 21, 22, 23, 24, 25, 26, 27, 28, 29, 30, 31, 32, 33, 34, 35, 36, 37, 38] (by decide +kernel) (by decide +kernel)
set_option maxRecDepth 20000 in
theorem gX6_page_X6_fails : GoodIn wsX6_page (wsV RX6 131 RX6 yX6_fails wsX6_fails) := goodIn_app (goodIn_of _ (by decide +kernel)) ggX6_page_X6_fails
theorem dX6_page_0 : decode cX6_page 0 = .ok (.aload_n 0, 1) := by decide +kernel
theorem dX6_page_1 : decode cX6_page 1 = .ok (.iconst 0, 1) := by decide +kernel
theorem dX6_page_2 : decode cX6_page 2 = .ok (.putfield 81, 3) := by decide +kernel
theorem dX6_page_5 : decode cX6_page 5 = .ok (.iload_n 1, 1) := by decide +kernel
theorem dX6_page_6 : decode cX6_page 6 = .ok (.ifCond .lt 20, 3) := by decide +kernel
theorem dX6_page_9 : decode cX6_page 9 = .ok (.iload_n 1, 1) := by decide +kernel
theorem dX6_page_10 : decode cX6_page 10 = .ok (.aload_n 0, 1) := by decide +kernel
theorem dX6_page_11 : decode cX6_page 11 = .ok (.getfield 196, 3) := by decide +kernel
theorem dX6_page_14 : decode cX6_page 14 = .ok (.if_icmp .ge 12, 3) := by decide +kernel
theorem dX6_page_17 : decode cX6_page 17 = .ok (.aload_n 0, 1) := by decide +kernel
theorem dX6_page_18 : decode cX6_page 18 = .ok (.getfield 75, 3) := by decide +kernel
theorem dX6_page_21 : decode cX6_page 21 = .ok (.iload_n 1, 1) := by decide +kernel
theorem dX6_page_22 : decode cX6_page 22 = .ok (.iaload, 1) := by decide +kernel
theorem dX6_page_23 : decode cX6_page 23 = .ok (.goto 8, 3) := by decide +kernel
theorem dX6_page_26 : decode cX6_page 26 = .ok (.aload_n 0, 1) := by decide +kernel
