theorem dX6_groupCount_12 : decode cX6_groupCount 12 = .ok (.iload_n 2, 1) := by decide +kernel
theorem dX6_groupCount_13 : decode cX6_groupCount 13 = .ok (.aload_n 0, 1) := by decide +kernel
theorem dX6_groupCount_14 : decode cX6_groupCount 14 = .ok (.iload_n 1, 1) := by decide +kernel
theorem dX6_groupCount_15 : decode cX6_groupCount 15 = .ok (.iload_n 3, 1) := by decide +kernel
theorem dX6_groupCount_16 : decode cX6_groupCount 16 = .ok (.iconst 0, 1) := by decide +kernel
theorem dX6_groupCount_17 : decode cX6_groupCount 17 = .ok (.lconst 0, 1) := by decide +kernel
theorem dX6_groupCount_18 : decode cX6_groupCount 18 = .ok (.invokevirtual 108, 3) := by decide +kernel
theorem dX6_groupCount_21 : decode cX6_groupCount 21 = .ok (.ifCond .eq 7, 3) := by decide +kernel
theorem dX6_groupCount_24 : decode cX6_groupCount 24 = .ok (.iconst 1, 1) := by decide +kernel
theorem dX6_groupCount_25 : decode cX6_groupCount 25 = .ok (.goto 4, 3) := by decide +kernel
theorem dX6_groupCount_28 : decode cX6_groupCount 28 = .ok (.iconst 0, 1) := by decide +kernel
theorem dX6_groupCount_29 : decode cX6_groupCount 29 = .ok (.iadd, 1) := by decide +kernel
theorem dX6_groupCount_30 : decode cX6_groupCount 30 = .ok (.istore_n 2, 1) := by decide +kernel
theorem dX6_groupCount_31 : decode cX6_groupCount 31 = .ok (.iinc 3 1, 3) := by decide +kernel
theorem dX6_groupCount_34 : decode cX6_groupCount 34 = .ok (.goto (-30), 3) := by decide +kernel
theorem dX6_groupCount_37 : decode cX6_groupCount 37 = .ok (.iload_n 2, 1) := by decide +kernel
theorem dX6_groupCount_38 : decode cX6_groupCount 38 = .ok (.ireturn, 1) := by decide +kernel
set_option maxRecDepth 20000 in
theorem ggX6_leader_X6_isFirst : GoodIn wsX6_leader wsX6_isFirst := goodIn_r _ [7, 1, 8, 9, 10, 11, 6, 12, 13, 14, 15, 16, 17, 18, 19, 20, 21, 22, 23, 24, 25, 26, 27, 28, 29, 30, 31, 32, 33, 34, 35, 36, 37, 38, 39, 40, 41, 42, 43, 44, 45, 46, 47, 48, 49, 50, 51, 52, 53, 54, 55, 56] (by decide +kernel) (by decide +kernel)
set_option maxRecDepth 20000 in
theorem gX6_leader_X6_isFirst : GoodIn wsX6_leader (wsV RX6 108 RX6 yX6_isFirst wsX6_isFirst) := goodIn_app (goodIn_of _ (by decide +kernel)) ggX6_leader_X6_isFirst
set_option maxRecDepth 20000 in
theorem ggX6_leader_X6_isAhead : GoodIn wsX6_leader wsX6_isAhead := goodIn_r _ [17, 18, 19, 20, 21, 22, 6, 23, 24, 25, 26, 27, 28, 29, 30, 31, 32, 33, 34, 35, 36, 37, 38, 39, 40, 41, 42, 43, 44, 45, 46, 47, 48, 49, 50, 51, 52, 53, 54, 55, 56] (by decide +kernel) (by decide +kernel)
set_option maxRecDepth 20000 in
theorem gX6_leader_X6_isAhead : GoodIn wsX6_leader (wsV RX6 104 RX6 yX6_isAhead wsX6_isAhead) := goodIn_app (goodIn_of _ (by decide +kernel)) ggX6_leader_X6_isAhead
theorem dX6_leader_0 : decode cX6_leader 0 = .ok (.iconst 0, 1) := by decide +kernel
theorem dX6_leader_1 : decode cX6_leader 1 = .ok (.istore 6, 2) := by decide +kernel
theorem dX6_leader_3 : decode cX6_leader 3 = .ok (.iload 6, 2) := by decide +kernel
theorem dX6_leader_5 : decode cX6_leader 5 = .ok (.aload_n 0, 1) := by decide +kernel
theorem dX6_leader_6 : decode cX6_leader 6 = .ok (.getfield 97, 3) := by decide +kernel
theorem dX6_leader_9 : decode cX6_leader 9 = .ok (.if_icmp .ge 25, 3) := by decide +kernel
theorem dX6_leader_12 : decode cX6_leader 12 = .ok (.aload_n 0, 1) := by decide +kernel
theorem dX6_leader_13 : decode cX6_leader 13 = .ok (.getfield 78, 3) := by decide +kernel
theorem dX6_leader_16 : decode cX6_leader 16 = .ok (.iload 6, 2) := by decide +kernel
theorem dX6_leader_18 : decode cX6_leader 18 = .ok (.aload_n 0, 1) := by decide +kernel
theorem dX6_leader_19 : decode cX6_leader 19 = .ok (.iload_n 1, 1) := by decide +kernel
theorem dX6_leader_20 : decode cX6_leader 20 = .ok (.iload 6, 2) := by decide +kernel
theorem dX6_leader_22 : decode cX6_leader 22 = .ok (.iload_n 2, 1) := by decide +kernel
theorem dX6_leader_23 : decode cX6_leader 23 = .ok (.lload_n 3, 1) := by decide +kernel
theorem dX6_leader_24 : decode cX6_leader 24 = .ok (.invokevirtual 108, 3) := by decide +kernel
theorem dX6_leader_27 : decode cX6_leader 27 = .ok (.bastore, 1) := by decide +kernel
theorem dX6_leader_28 : decode cX6_leader 28 = .ok (.iinc 6 1, 3) := by decide +kernel
theorem dX6_leader_31 : decode cX6_leader 31 = .ok (.goto (-28), 3) := by decide +kernel
theorem dX6_leader_34 : decode cX6_leader 34 = .ok (.iconst 0, 1) := by decide +kernel
theorem dX6_leader_35 : decode cX6_leader 35 = .ok (.istore 6, 2) := by decide +kernel
theorem dX6_leader_37 : decode cX6_leader 37 = .ok (.iload 6, 2) := by decide +kernel
theorem dX6_leader_39 : decode cX6_leader 39 = .ok (.aload_n 0, 1) := by decide +kernel
theorem dX6_leader_40 : decode cX6_leader 40 = .ok (.getfield 97, 3) := by decide +kernel
theorem dX6_leader_43 : decode cX6_leader 43 = .ok (.if_icmp .ge 93, 3) := by decide +kernel
theorem dX6_leader_46 : decode cX6_leader 46 = .ok (.iconst 0, 1) := by decide +kernel
theorem dX6_leader_47 : decode cX6_leader 47 = .ok (.istore 7, 2) := by decide +kernel
theorem dX6_leader_49 : decode cX6_leader 49 = .ok (.iconst 0, 1) := by decide +kernel
theorem dX6_leader_50 : decode cX6_leader 50 = .ok (.istore 8, 2) := by decide +kernel
theorem dX6_leader_52 : decode cX6_leader 52 = .ok (.iload 8, 2) := by decide +kernel
theorem dX6_leader_54 : decode cX6_leader 54 = .ok (.aload_n 0, 1) := by decide +kernel
theorem dX6_leader_55 : decode cX6_leader 55 = .ok (.getfield 97, 3) := by decide +kernel
theorem dX6_leader_58 : decode cX6_leader 58 = .ok (.if_icmp .ge 52, 3) := by decide +kernel
theorem dX6_leader_61 : decode cX6_leader 61 = .ok (.aload_n 0, 1) := by decide +kernel
theorem dX6_leader_62 : decode cX6_leader 62 = .ok (.getfield 78, 3) := by decide +kernel
theorem dX6_leader_65 : decode cX6_leader 65 = .ok (.iload 6, 2) := by decide +kernel
theorem dX6_leader_67 : decode cX6_leader 67 = .ok (.baload, 1) := by decide +kernel
theorem dX6_leader_68 : decode cX6_leader 68 = .ok (.ifCond .eq 42, 3) := by decide +kernel
theorem dX6_leader_71 : decode cX6_leader 71 = .ok (.iload 7, 2) := by decide +kernel
theorem dX6_leader_73 : decode cX6_leader 73 = .ok (.aload_n 0, 1) := by decide +kernel
theorem dX6_leader_74 : decode cX6_leader 74 = .ok (.getfield 78, 3) := by decide +kernel
theorem dX6_leader_77 : decode cX6_leader 77 = .ok (.iload 8, 2) := by decide +kernel
theorem dX6_leader_79 : decode cX6_leader 79 = .ok (.baload, 1) := by decide +kernel
theorem dX6_leader_80 : decode cX6_leader 80 = .ok (.ifCond .eq 20, 3) := by decide +kernel
theorem dX6_leader_83 : decode cX6_leader 83 = .ok (.aload_n 0, 1) := by decide +kernel
theorem dX6_leader_84 : decode cX6_leader 84 = .ok (.iload 8, 2) := by decide +kernel
theorem dX6_leader_86 : decode cX6_leader 86 = .ok (.iload 6, 2) := by decide +kernel
theorem dX6_leader_88 : decode cX6_leader 88 = .ok (.iload_n 2, 1) := by decide +kernel
theorem dX6_leader_89 : decode cX6_leader 89 = .ok (.lload_n 3, 1) := by decide +kernel
theorem dX6_leader_90 : decode cX6_leader 90 = .ok (.invokevirtual 104, 3) := by decide +kernel
theorem dX6_leader_93 : decode cX6_leader 93 = .ok (.ifCond .eq 7, 3) := by decide +kernel
theorem dX6_leader_96 : decode cX6_leader 96 = .ok (.iconst 1, 1) := by decide +kernel
theorem dX6_leader_97 : decode cX6_leader 97 = .ok (.goto 4, 3) := by decide +kernel
theorem dX6_leader_100 : decode cX6_leader 100 = .ok (.iconst 0, 1) := by decide +kernel
theorem dX6_leader_101 : decode cX6_leader 101 = .ok (.iadd, 1) := by decide +kernel
theorem dX6_leader_102 : decode cX6_leader 102 = .ok (.istore 7, 2) := by decide +kernel
theorem dX6_leader_104 : decode cX6_leader 104 = .ok (.iinc 8 1, 3) := by decide +kernel
theorem dX6_leader_107 : decode cX6_leader 107 = .ok (.goto (-55), 3) := by decide +kernel
theorem dX6_leader_110 : decode cX6_leader 110 = .ok (.aload_n 0, 1) := by decide +kernel
theorem dX6_leader_111 : decode cX6_leader 111 = .ok (.getfield 78, 3) := by decide +kernel
theorem dX6_leader_114 : decode cX6_leader 114 = .ok (.iload 6, 2) := by decide +kernel
theorem dX6_leader_116 : decode cX6_leader 116 = .ok (.baload, 1) := by decide +kernel
theorem dX6_leader_117 : decode cX6_leader 117 = .ok (.ifCond .eq 13, 3) := by decide +kernel
theorem dX6_leader_120 : decode cX6_leader 120 = .ok (.iload 7, 2) := by decide +kernel
theorem dX6_leader_122 : decode cX6_leader 122 = .ok (.iload 5, 2) := by decide +kernel
theorem dX6_leader_124 : decode cX6_leader 124 = .ok (.if_icmp .ne 6, 3) := by decide +kernel
theorem dX6_leader_127 : decode cX6_leader 127 = .ok (.iload 6, 2) := by decide +kernel
theorem dX6_leader_129 : decode cX6_leader 129 = .ok (.ireturn, 1) := by decide +kernel
theorem dX6_leader_130 : decode cX6_leader 130 = .ok (.iinc 6 1, 3) := by decide +kernel
theorem dX6_leader_133 : decode cX6_leader 133 = .ok (.goto (-96), 3) := by decide +kernel
theorem dX6_leader_136 : decode cX6_leader 136 = .ok (.iconst (-1), 1) := by decide +kernel
theorem dX6_leader_137 : decode cX6_leader 137 = .ok (.ireturn, 1) := by decide +kernel
theorem dX6_liveIn_0 : decode cX6_liveIn 0 = .ok (.iconst 0, 1) := by decide +kernel
theorem dX6_liveIn_1 : decode cX6_liveIn 1 = .ok (.istore_n 2, 1) := by decide +kernel
theorem dX6_liveIn_2 : decode cX6_liveIn 2 = .ok (.iconst 0, 1) := by decide +kernel
theorem dX6_liveIn_3 : decode cX6_liveIn 3 = .ok (.istore_n 3, 1) := by decide +kernel
theorem dX6_liveIn_4 : decode cX6_liveIn 4 = .ok (.iload_n 3, 1) := by decide +kernel
theorem dX6_liveIn_5 : decode cX6_liveIn 5 = .ok (.aload_n 0, 1) := by decide +kernel
theorem dX6_liveIn_6 : decode cX6_liveIn 6 = .ok (.getfield 97, 3) := by decide +kernel
theorem dX6_liveIn_9 : decode cX6_liveIn 9 = .ok (.if_icmp .ge 45, 3) := by decide +kernel
theorem dX6_liveIn_12 : decode cX6_liveIn 12 = .ok (.iload_n 2, 1) := by decide +kernel
theorem dX6_liveIn_13 : decode cX6_liveIn 13 = .ok (.aload_n 0, 1) := by decide +kernel
theorem dX6_liveIn_14 : decode cX6_liveIn 14 = .ok (.getfield 19, 3) := by decide +kernel
theorem dX6_liveIn_17 : decode cX6_liveIn 17 = .ok (.iload_n 3, 1) := by decide +kernel
theorem dX6_liveIn_18 : decode cX6_liveIn 18 = .ok (.iaload, 1) := by decide +kernel
theorem dX6_liveIn_19 : decode cX6_liveIn 19 = .ok (.iload_n 1, 1) := by decide +kernel
theorem dX6_liveIn_20 : decode cX6_liveIn 20 = .ok (.if_icmp .ne 25, 3) := by decide +kernel
theorem dX6_liveIn_23 : decode cX6_liveIn 23 = .ok (.aload_n 0, 1) := by decide +kernel
theorem dX6_liveIn_24 : decode cX6_liveIn 24 = .ok (.getfield 23, 3) := by decide +kernel
theorem dX6_liveIn_27 : decode cX6_liveIn 27 = .ok (.iload_n 3, 1) := by decide +kernel
theorem dX6_liveIn_28 : decode cX6_liveIn 28 = .ok (.baload, 1) := by decide +kernel
theorem dX6_liveIn_29 : decode cX6_liveIn 29 = .ok (.ifCond .ne 16, 3) := by decide +kernel
theorem dX6_liveIn_32 : decode cX6_liveIn 32 = .ok (.aload_n 0, 1) := by decide +kernel
theorem dX6_liveIn_33 : decode cX6_liveIn 33 = .ok (.getfield 27, 3) := by decide +kernel
theorem dX6_liveIn_36 : decode cX6_liveIn 36 = .ok (.iload_n 3, 1) := by decide +kernel
theorem dX6_liveIn_37 : decode cX6_liveIn 37 = .ok (.baload, 1) := by decide +kernel
theorem dX6_liveIn_38 : decode cX6_liveIn 38 = .ok (.ifCond .ne 7, 3) := by decide +kernel
theorem dX6_liveIn_41 : decode cX6_liveIn 41 = .ok (.iconst 1, 1) := by decide +kernel
theorem dX6_liveIn_42 : decode cX6_liveIn 42 = .ok (.goto 4, 3) := by decide +kernel
theorem dX6_liveIn_45 : decode cX6_liveIn 45 = .ok (.iconst 0, 1) := by decide +kernel
theorem dX6_liveIn_46 : decode cX6_liveIn 46 = .ok (.iadd, 1) := by decide +kernel
theorem dX6_liveIn_47 : decode cX6_liveIn 47 = .ok (.istore_n 2, 1) := by decide +kernel
theorem dX6_liveIn_48 : decode cX6_liveIn 48 = .ok (.iinc 3 1, 3) := by decide +kernel
theorem dX6_liveIn_51 : decode cX6_liveIn 51 = .ok (.goto (-47), 3) := by decide +kernel
theorem dX6_liveIn_54 : decode cX6_liveIn 54 = .ok (.iload_n 2, 1) := by decide +kernel
theorem dX6_liveIn_55 : decode cX6_liveIn 55 = .ok (.ireturn, 1) := by decide +kernel
theorem dX6_seenBy_0 : decode cX6_seenBy 0 = .ok (.iconst 0, 1) := by decide +kernel
theorem dX6_seenBy_1 : decode cX6_seenBy 1 = .ok (.istore_n 2, 1) := by decide +kernel
theorem dX6_seenBy_2 : decode cX6_seenBy 2 = .ok (.iconst 0, 1) := by decide +kernel
theorem dX6_seenBy_3 : decode cX6_seenBy 3 = .ok (.istore_n 3, 1) := by decide +kernel
theorem dX6_seenBy_4 : decode cX6_seenBy 4 = .ok (.iload_n 3, 1) := by decide +kernel
theorem dX6_seenBy_5 : decode cX6_seenBy 5 = .ok (.aload_n 0, 1) := by decide +kernel
theorem dX6_seenBy_6 : decode cX6_seenBy 6 = .ok (.getfield 111, 3) := by decide +kernel
theorem dX6_seenBy_9 : decode cX6_seenBy 9 = .ok (.if_icmp .ge 41, 3) := by decide +kernel
theorem dX6_seenBy_12 : decode cX6_seenBy 12 = .ok (.iload_n 2, 1) := by decide +kernel
theorem dX6_seenBy_13 : decode cX6_seenBy 13 = .ok (.aload_n 0, 1) := by decide +kernel
theorem dX6_seenBy_14 : decode cX6_seenBy 14 = .ok (.getfield 30, 3) := by decide +kernel
theorem dX6_seenBy_17 : decode cX6_seenBy 17 = .ok (.iload_n 3, 1) := by decide +kernel
theorem dX6_seenBy_18 : decode cX6_seenBy 18 = .ok (.iaload, 1) := by decide +kernel
theorem dX6_seenBy_19 : decode cX6_seenBy 19 = .ok (.iconst 2, 1) := by decide +kernel
theorem dX6_seenBy_20 : decode cX6_seenBy 20 = .ok (.if_icmp .eq 21, 3) := by decide +kernel
theorem dX6_seenBy_23 : decode cX6_seenBy 23 = .ok (.aload_n 0, 1) := by decide +kernel
theorem dX6_seenBy_24 : decode cX6_seenBy 24 = .ok (.getfield 36, 3) := by decide +kernel
theorem dX6_seenBy_27 : decode cX6_seenBy 27 = .ok (.bipush 40, 2) := by decide +kernel
theorem dX6_seenBy_29 : decode cX6_seenBy 29 = .ok (.iload_n 3, 1) := by decide +kernel
theorem dX6_seenBy_30 : decode cX6_seenBy 30 = .ok (.imul, 1) := by decide +kernel
theorem dX6_seenBy_31 : decode cX6_seenBy 31 = .ok (.iload_n 1, 1) := by decide +kernel
theorem dX6_seenBy_32 : decode cX6_seenBy 32 = .ok (.iadd, 1) := by decide +kernel
theorem dX6_seenBy_33 : decode cX6_seenBy 33 = .ok (.baload, 1) := by decide +kernel
theorem dX6_seenBy_34 : decode cX6_seenBy 34 = .ok (.ifCond .eq 7, 3) := by decide +kernel
theorem dX6_seenBy_37 : decode cX6_seenBy 37 = .ok (.iconst 1, 1) := by decide +kernel
theorem dX6_seenBy_38 : decode cX6_seenBy 38 = .ok (.goto 4, 3) := by decide +kernel
theorem dX6_seenBy_41 : decode cX6_seenBy 41 = .ok (.iconst 0, 1) := by decide +kernel
theorem dX6_seenBy_42 : decode cX6_seenBy 42 = .ok (.iadd, 1) := by decide +kernel
theorem dX6_seenBy_43 : decode cX6_seenBy 43 = .ok (.istore_n 2, 1) := by decide +kernel
theorem dX6_seenBy_44 : decode cX6_seenBy 44 = .ok (.iinc 3 1, 3) := by decide +kernel
theorem dX6_seenBy_47 : decode cX6_seenBy 47 = .ok (.goto (-43), 3) := by decide +kernel
theorem dX6_seenBy_50 : decode cX6_seenBy 50 = .ok (.iload_n 2, 1) := by decide +kernel
theorem dX6_seenBy_51 : decode cX6_seenBy 51 = .ok (.ireturn, 1) := by decide +kernel
set_option maxRecDepth 20000 in
theorem ggX6_stateOf_X6_liveIn : GoodIn wsX6_stateOf wsX6_liveIn := goodIn_r _ [5, 6, 7, 8, 9, 17, 18, 19, 20, 21, 22, 23, 24, 25, 26, 27, 28, 29, 30, 31, 32, 33, 34, 35, 36, 37, 38, 39, 40, 41, 42, 43, 44, 45, 46] (by decide +kernel) (by decide +kernel)
set_option maxRecDepth 20000 in
theorem gX6_stateOf_X6_liveIn : GoodIn wsX6_stateOf (wsV RX6 114 RX6 yX6_liveIn wsX6_liveIn) := goodIn_app (goodIn_of _ (by decide +kernel)) ggX6_stateOf_X6_liveIn
set_option maxRecDepth 20000 in
theorem ggX6_stateOf_X6_seenBy : GoodIn wsX6_stateOf wsX6_seenBy := goodIn_r _ [13, 14, 15, 16, 17, 18, 19, 20, 21, 22, 23, 24, 25, 26, 27, 28, 29, 30, 31, 32, 33, 34, 35, 36, 37, 38, 39, 40, 41, 42, 43, 44, 45, 46] (by decide +kernel) (by decide +kernel)
set_option maxRecDepth 20000 in
theorem gX6_stateOf_X6_seenBy : GoodIn wsX6_stateOf (wsV RX6 118 RX6 yX6_seenBy wsX6_seenBy) := goodIn_app (goodIn_of _ (by decide +kernel)) ggX6_stateOf_X6_seenBy
theorem dX6_stateOf_0 : decode cX6_stateOf 0 = .ok (.aload_n 0, 1) := by decide +kernel
theorem dX6_stateOf_1 : decode cX6_stateOf 1 = .ok (.iload_n 1, 1) := by decide +kernel
theorem dX6_stateOf_2 : decode cX6_stateOf 2 = .ok (.invokevirtual 114, 3) := by decide +kernel
theorem dX6_stateOf_5 : decode cX6_stateOf 5 = .ok (.ifCond .le 7, 3) := by decide +kernel
theorem dX6_stateOf_8 : decode cX6_stateOf 8 = .ok (.iconst 0, 1) := by decide +kernel
theorem dX6_stateOf_9 : decode cX6_stateOf 9 = .ok (.goto 16, 3) := by decide +kernel
theorem dX6_stateOf_12 : decode cX6_stateOf 12 = .ok (.aload_n 0, 1) := by decide +kernel
theorem dX6_stateOf_13 : decode cX6_stateOf 13 = .ok (.iload_n 1, 1) := by decide +kernel
theorem dX6_stateOf_14 : decode cX6_stateOf 14 = .ok (.invokevirtual 118, 3) := by decide +kernel
theorem dX6_stateOf_17 : decode cX6_stateOf 17 = .ok (.ifCond .le 7, 3) := by decide +kernel
theorem dX6_stateOf_20 : decode cX6_stateOf 20 = .ok (.iconst 1, 1) := by decide +kernel
theorem dX6_stateOf_21 : decode cX6_stateOf 21 = .ok (.goto 4, 3) := by decide +kernel
theorem dX6_stateOf_24 : decode cX6_stateOf 24 = .ok (.iconst 2, 1) := by decide +kernel
theorem dX6_stateOf_25 : decode cX6_stateOf 25 = .ok (.ireturn, 1) := by decide +kernel
set_option maxRecDepth 20000 in
theorem ggX6_countOf_X6_stateOf : GoodIn wsX6_countOf wsX6_stateOf := goodIn_r _ [6, 7, 8, 9, 5, 10, 11, 12, 13, 14, 15, 16, 17, 18, 19, 20, 21, 22, 23, 24, 25, 26, 27, 28, 29, 30, 31, 32, 33, 34, 35, 36, 37, 38, 39, 40, 41, 42, 43, 44, 45, 46, 47, 48, 49, 50, 51] (by decide +kernel) (by decide +kernel)
set_option maxRecDepth 20000 in
theorem gX6_countOf_X6_stateOf : GoodIn wsX6_countOf (wsV RX6 124 RX6 yX6_stateOf wsX6_stateOf) := goodIn_app (goodIn_of _ (by decide +kernel)) ggX6_countOf_X6_stateOf
theorem dX6_countOf_0 : decode cX6_countOf 0 = .ok (.iconst 0, 1) := by decide +kernel
theorem dX6_countOf_1 : decode cX6_countOf 1 = .ok (.istore_n 2, 1) := by decide +kernel
theorem dX6_countOf_2 : decode cX6_countOf 2 = .ok (.iconst 0, 1) := by decide +kernel
theorem dX6_countOf_3 : decode cX6_countOf 3 = .ok (.istore_n 3, 1) := by decide +kernel
theorem dX6_countOf_4 : decode cX6_countOf 4 = .ok (.iload_n 3, 1) := by decide +kernel
theorem dX6_countOf_5 : decode cX6_countOf 5 = .ok (.aload_n 0, 1) := by decide +kernel
theorem dX6_countOf_6 : decode cX6_countOf 6 = .ok (.getfield 121, 3) := by decide +kernel
theorem dX6_countOf_9 : decode cX6_countOf 9 = .ok (.if_icmp .ge 26, 3) := by decide +kernel
theorem dX6_countOf_12 : decode cX6_countOf 12 = .ok (.iload_n 2, 1) := by decide +kernel
theorem dX6_countOf_13 : decode cX6_countOf 13 = .ok (.aload_n 0, 1) := by decide +kernel
theorem dX6_countOf_14 : decode cX6_countOf 14 = .ok (.iload_n 3, 1) := by decide +kernel
theorem dX6_countOf_15 : decode cX6_countOf 15 = .ok (.invokevirtual 124, 3) := by decide +kernel
theorem dX6_countOf_18 : decode cX6_countOf 18 = .ok (.iload_n 1, 1) := by decide +kernel
theorem dX6_countOf_19 : decode cX6_countOf 19 = .ok (.if_icmp .ne 7, 3) := by decide +kernel
theorem dX6_countOf_22 : decode cX6_countOf 22 = .ok (.iconst 1, 1) := by decide +kernel
theorem dX6_countOf_23 : decode cX6_countOf 23 = .ok (.goto 4, 3) := by decide +kernel
theorem dX6_countOf_26 : decode cX6_countOf 26 = .ok (.iconst 0, 1) := by decide +kernel
theorem dX6_countOf_27 : decode cX6_countOf 27 = .ok (.iadd, 1) := by decide +kernel
theorem dX6_countOf_28 : decode cX6_countOf 28 = .ok (.istore_n 2, 1) := by decide +kernel
theorem dX6_countOf_29 : decode cX6_countOf 29 = .ok (.iinc 3 1, 3) := by decide +kernel
theorem dX6_countOf_32 : decode cX6_countOf 32 = .ok (.goto (-28), 3) := by decide +kernel
theorem dX6_countOf_35 : decode cX6_countOf 35 = .ok (.iload_n 2, 1) := by decide +kernel
theorem dX6_countOf_36 : decode cX6_countOf 36 = .ok (.ireturn, 1) := by decide +kernel
theorem dX6_add_0 : decode cX6_add 0 = .ok (.aload_n 0, 1) := by decide +kernel
theorem dX6_add_1 : decode cX6_add 1 = .ok (.iconst 0, 1) := by decide +kernel
theorem dX6_add_2 : decode cX6_add 2 = .ok (.putfield 81, 3) := by decide +kernel
theorem dX6_add_5 : decode cX6_add 5 = .ok (.aload_n 0, 1) := by decide +kernel
theorem dX6_add_6 : decode cX6_add 6 = .ok (.getfield 97, 3) := by decide +kernel
theorem dX6_add_9 : decode cX6_add 9 = .ok (.sipush 300, 3) := by decide +kernel
theorem dX6_add_12 : decode cX6_add 12 = .ok (.if_icmp .ne 6, 3) := by decide +kernel
theorem dX6_add_15 : decode cX6_add 15 = .ok (.bipush (-4), 2) := by decide +kernel
theorem dX6_add_17 : decode cX6_add 17 = .ok (.ireturn, 1) := by decide +kernel
theorem dX6_add_18 : decode cX6_add 18 = .ok (.aload_n 0, 1) := by decide +kernel
theorem dX6_add_19 : decode cX6_add 19 = .ok (.getfield 7, 3) := by decide +kernel
theorem dX6_add_22 : decode cX6_add 22 = .ok (.aload_n 0, 1) := by decide +kernel
theorem dX6_add_23 : decode cX6_add 23 = .ok (.getfield 97, 3) := by decide +kernel
theorem dX6_add_26 : decode cX6_add 26 = .ok (.lload_n 1, 1) := by decide +kernel
theorem dX6_add_27 : decode cX6_add 27 = .ok (.lastore, 1) := by decide +kernel
theorem dX6_add_28 : decode cX6_add 28 = .ok (.aload_n 0, 1) := by decide +kernel
theorem dX6_add_29 : decode cX6_add 29 = .ok (.getfield 13, 3) := by decide +kernel
theorem dX6_add_32 : decode cX6_add 32 = .ok (.aload_n 0, 1) := by decide +kernel
theorem dX6_add_33 : decode cX6_add 33 = .ok (.getfield 97, 3) := by decide +kernel
theorem dX6_add_36 : decode cX6_add 36 = .ok (.lload_n 3, 1) := by decide +kernel
theorem dX6_add_37 : decode cX6_add 37 = .ok (.lastore, 1) := by decide +kernel
theorem dX6_add_38 : decode cX6_add 38 = .ok (.aload_n 0, 1) := by decide +kernel
theorem dX6_add_39 : decode cX6_add 39 = .ok (.getfield 16, 3) := by decide +kernel
theorem dX6_add_42 : decode cX6_add 42 = .ok (.aload_n 0, 1) := by decide +kernel
theorem dX6_add_43 : decode cX6_add 43 = .ok (.getfield 97, 3) := by decide +kernel
theorem dX6_add_46 : decode cX6_add 46 = .ok (.lload 5, 2) := by decide +kernel
theorem dX6_add_48 : decode cX6_add 48 = .ok (.lastore, 1) := by decide +kernel
theorem dX6_add_49 : decode cX6_add 49 = .ok (.aload_n 0, 1) := by decide +kernel
theorem dX6_add_50 : decode cX6_add 50 = .ok (.getfield 19, 3) := by decide +kernel
theorem dX6_add_53 : decode cX6_add 53 = .ok (.aload_n 0, 1) := by decide +kernel
theorem dX6_add_54 : decode cX6_add 54 = .ok (.getfield 97, 3) := by decide +kernel
theorem dX6_add_57 : decode cX6_add 57 = .ok (.iconst (-1), 1) := by decide +kernel
theorem dX6_add_58 : decode cX6_add 58 = .ok (.iastore, 1) := by decide +kernel
theorem dX6_add_59 : decode cX6_add 59 = .ok (.aload_n 0, 1) := by decide +kernel
theorem dX6_add_60 : decode cX6_add 60 = .ok (.getfield 23, 3) := by decide +kernel
theorem dX6_add_63 : decode cX6_add 63 = .ok (.aload_n 0, 1) := by decide +kernel
theorem dX6_add_64 : decode cX6_add 64 = .ok (.getfield 97, 3) := by decide +kernel
theorem dX6_add_67 : decode cX6_add 67 = .ok (.iconst 1, 1) := by decide +kernel
theorem dX6_add_68 : decode cX6_add 68 = .ok (.bastore, 1) := by decide +kernel
theorem dX6_add_69 : decode cX6_add 69 = .ok (.aload_n 0, 1) := by decide +kernel
theorem dX6_add_70 : decode cX6_add 70 = .ok (.dup, 1) := by decide +kernel
theorem dX6_add_71 : decode cX6_add 71 = .ok (.getfield 97, 3) := by decide +kernel
theorem dX6_add_74 : decode cX6_add 74 = .ok (.iconst 1, 1) := by decide +kernel
theorem dX6_add_75 : decode cX6_add 75 = .ok (.iadd, 1) := by decide +kernel
theorem dX6_add_76 : decode cX6_add 76 = .ok (.putfield 97, 3) := by decide +kernel
theorem dX6_add_79 : decode cX6_add 79 = .ok (.aload_n 0, 1) := by decide +kernel
theorem dX6_add_80 : decode cX6_add 80 = .ok (.getfield 97, 3) := by decide +kernel
theorem dX6_add_83 : decode cX6_add 83 = .ok (.iconst 1, 1) := by decide +kernel
theorem dX6_add_84 : decode cX6_add 84 = .ok (.isub, 1) := by decide +kernel
theorem dX6_add_85 : decode cX6_add 85 = .ok (.ireturn, 1) := by decide +kernel
theorem dX6_drop_0 : decode cX6_drop 0 = .ok (.aload_n 0, 1) := by decide +kernel
theorem dX6_drop_1 : decode cX6_drop 1 = .ok (.iconst 0, 1) := by decide +kernel
theorem dX6_drop_2 : decode cX6_drop 2 = .ok (.putfield 81, 3) := by decide +kernel
theorem dX6_drop_5 : decode cX6_drop 5 = .ok (.iload_n 1, 1) := by decide +kernel
theorem dX6_drop_6 : decode cX6_drop 6 = .ok (.ifCond .lt 11, 3) := by decide +kernel
theorem dX6_drop_9 : decode cX6_drop 9 = .ok (.iload_n 1, 1) := by decide +kernel
theorem dX6_drop_10 : decode cX6_drop 10 = .ok (.aload_n 0, 1) := by decide +kernel
theorem dX6_drop_11 : decode cX6_drop 11 = .ok (.getfield 97, 3) := by decide +kernel
theorem dX6_drop_14 : decode cX6_drop 14 = .ok (.if_icmp .lt 10, 3) := by decide +kernel
theorem dX6_drop_17 : decode cX6_drop 17 = .ok (.aload_n 0, 1) := by decide +kernel
theorem dX6_drop_18 : decode cX6_drop 18 = .ok (.iconst 1, 1) := by decide +kernel
theorem dX6_drop_19 : decode cX6_drop 19 = .ok (.putfield 81, 3) := by decide +kernel
theorem dX6_drop_22 : decode cX6_drop 22 = .ok (.iconst 0, 1) := by decide +kernel
theorem dX6_drop_23 : decode cX6_drop 23 = .ok (.ireturn, 1) := by decide +kernel
theorem dX6_drop_24 : decode cX6_drop 24 = .ok (.aload_n 0, 1) := by decide +kernel
theorem dX6_drop_25 : decode cX6_drop 25 = .ok (.getfield 27, 3) := by decide +kernel
theorem dX6_drop_28 : decode cX6_drop 28 = .ok (.iload_n 1, 1) := by decide +kernel
theorem dX6_drop_29 : decode cX6_drop 29 = .ok (.baload, 1) := by decide +kernel
theorem dX6_drop_30 : decode cX6_drop 30 = .ok (.istore_n 2, 1) := by decide +kernel
theorem dX6_drop_31 : decode cX6_drop 31 = .ok (.aload_n 0, 1) := by decide +kernel
theorem dX6_drop_32 : decode cX6_drop 32 = .ok (.getfield 27, 3) := by decide +kernel
theorem dX6_drop_35 : decode cX6_drop 35 = .ok (.iload_n 1, 1) := by decide +kernel
theorem dX6_drop_36 : decode cX6_drop 36 = .ok (.iconst 1, 1) := by decide +kernel
theorem dX6_drop_37 : decode cX6_drop 37 = .ok (.bastore, 1) := by decide +kernel
theorem dX6_drop_38 : decode cX6_drop 38 = .ok (.iload_n 2, 1) := by decide +kernel
theorem dX6_drop_39 : decode cX6_drop 39 = .ok (.ifCond .ne 7, 3) := by decide +kernel
theorem dX6_drop_42 : decode cX6_drop 42 = .ok (.iconst 1, 1) := by decide +kernel
theorem dX6_drop_43 : decode cX6_drop 43 = .ok (.goto 4, 3) := by decide +kernel
theorem dX6_drop_46 : decode cX6_drop 46 = .ok (.iconst 0, 1) := by decide +kernel
theorem dX6_drop_47 : decode cX6_drop 47 = .ok (.ireturn, 1) := by decide +kernel
theorem dX6_newOnes_0 : decode cX6_newOnes 0 = .ok (.iconst 0, 1) := by decide +kernel
theorem dX6_newOnes_1 : decode cX6_newOnes 1 = .ok (.istore_n 1, 1) := by decide +kernel
theorem dX6_newOnes_2 : decode cX6_newOnes 2 = .ok (.iconst 0, 1) := by decide +kernel
theorem dX6_newOnes_3 : decode cX6_newOnes 3 = .ok (.istore_n 2, 1) := by decide +kernel
theorem dX6_newOnes_4 : decode cX6_newOnes 4 = .ok (.iload_n 2, 1) := by decide +kernel
theorem dX6_newOnes_5 : decode cX6_newOnes 5 = .ok (.aload_n 0, 1) := by decide +kernel
theorem dX6_newOnes_6 : decode cX6_newOnes 6 = .ok (.getfield 97, 3) := by decide +kernel
theorem dX6_newOnes_9 : decode cX6_newOnes 9 = .ok (.if_icmp .ge 35, 3) := by decide +kernel
theorem dX6_newOnes_12 : decode cX6_newOnes 12 = .ok (.iload_n 1, 1) := by decide +kernel
theorem dX6_newOnes_13 : decode cX6_newOnes 13 = .ok (.aload_n 0, 1) := by decide +kernel
theorem dX6_newOnes_14 : decode cX6_newOnes 14 = .ok (.getfield 23, 3) := by decide +kernel
theorem dX6_newOnes_17 : decode cX6_newOnes 17 = .ok (.iload_n 2, 1) := by decide +kernel
theorem dX6_newOnes_18 : decode cX6_newOnes 18 = .ok (.baload, 1) := by decide +kernel
theorem dX6_newOnes_19 : decode cX6_newOnes 19 = .ok (.ifCond .eq 16, 3) := by decide +kernel
theorem dX6_newOnes_22 : decode cX6_newOnes 22 = .ok (.aload_n 0, 1) := by decide +kernel
theorem dX6_newOnes_23 : decode cX6_newOnes 23 = .ok (.getfield 27, 3) := by decide +kernel
theorem dX6_newOnes_26 : decode cX6_newOnes 26 = .ok (.iload_n 2, 1) := by decide +kernel
theorem dX6_newOnes_27 : decode cX6_newOnes 27 = .ok (.baload, 1) := by decide +kernel
theorem dX6_newOnes_28 : decode cX6_newOnes 28 = .ok (.ifCond .ne 7, 3) := by decide +kernel
theorem dX6_newOnes_31 : decode cX6_newOnes 31 = .ok (.iconst 1, 1) := by decide +kernel
theorem dX6_newOnes_32 : decode cX6_newOnes 32 = .ok (.goto 4, 3) := by decide +kernel
theorem dX6_newOnes_35 : decode cX6_newOnes 35 = .ok (.iconst 0, 1) := by decide +kernel
theorem dX6_newOnes_36 : decode cX6_newOnes 36 = .ok (.iadd, 1) := by decide +kernel
theorem dX6_newOnes_37 : decode cX6_newOnes 37 = .ok (.istore_n 1, 1) := by decide +kernel
theorem dX6_newOnes_38 : decode cX6_newOnes 38 = .ok (.iinc 2 1, 3) := by decide +kernel
theorem dX6_newOnes_41 : decode cX6_newOnes 41 = .ok (.goto (-37), 3) := by decide +kernel
theorem dX6_newOnes_44 : decode cX6_newOnes 44 = .ok (.iload_n 1, 1) := by decide +kernel
theorem dX6_newOnes_45 : decode cX6_newOnes 45 = .ok (.ireturn, 1) := by decide +kernel
set_option maxRecDepth 20000 in
theorem ggX6_commit_X6_newOnes : GoodIn wsX6_commit wsX6_newOnes := goodIn_r _ [11, 3, 4, 6, 12, 13, 14, 15, 16, 17, 18, 19, 20, 21, 22, 23, 24, 25, 26, 27, 28, 29, 30, 31, 32, 33, 34, 35, 36, 37, 38, 39, 40, 41] (by decide +kernel) (by decide +kernel)
set_option maxRecDepth 20000 in
theorem gX6_commit_X6_newOnes : GoodIn wsX6_commit (wsV RX6 127 RX6 yX6_newOnes wsX6_newOnes) := goodIn_app (goodIn_of _ (by decide +kernel)) ggX6_commit_X6_newOnes
theorem dX6_commit_0 : decode cX6_commit 0 = .ok (.aload_n 0, 1) := by decide +kernel
theorem dX6_commit_1 : decode cX6_commit 1 = .ok (.iconst 0, 1) := by decide +kernel
theorem dX6_commit_2 : decode cX6_commit 2 = .ok (.putfield 81, 3) := by decide +kernel
theorem dX6_commit_5 : decode cX6_commit 5 = .ok (.aload_n 0, 1) := by decide +kernel
theorem dX6_commit_6 : decode cX6_commit 6 = .ok (.invokevirtual 127, 3) := by decide +kernel
theorem dX6_commit_9 : decode cX6_commit 9 = .ok (.istore_n 1, 1) := by decide +kernel
theorem dX6_commit_10 : decode cX6_commit 10 = .ok (.iload_n 1, 1) := by decide +kernel
theorem dX6_commit_11 : decode cX6_commit 11 = .ok (.ifCond .le 15, 3) := by decide +kernel
theorem dX6_commit_14 : decode cX6_commit 14 = .ok (.aload_n 0, 1) := by decide +kernel
theorem dX6_commit_15 : decode cX6_commit 15 = .ok (.getfield 121, 3) := by decide +kernel
theorem dX6_commit_18 : decode cX6_commit 18 = .ok (.bipush 40, 2) := by decide +kernel
theorem dX6_commit_20 : decode cX6_commit 20 = .ok (.if_icmp .ne 6, 3) := by decide +kernel
theorem dX6_commit_23 : decode cX6_commit 23 = .ok (.bipush (-4), 2) := by decide +kernel
theorem dX6_commit_25 : decode cX6_commit 25 = .ok (.ireturn, 1) := by decide +kernel
theorem dX6_commit_26 : decode cX6_commit 26 = .ok (.iconst 0, 1) := by decide +kernel
theorem dX6_commit_27 : decode cX6_commit 27 = .ok (.istore_n 2, 1) := by decide +kernel
theorem dX6_commit_28 : decode cX6_commit 28 = .ok (.iload_n 2, 1) := by decide +kernel
theorem dX6_commit_29 : decode cX6_commit 29 = .ok (.aload_n 0, 1) := by decide +kernel
theorem dX6_commit_30 : decode cX6_commit 30 = .ok (.getfield 97, 3) := by decide +kernel
theorem dX6_commit_33 : decode cX6_commit 33 = .ok (.if_icmp .ge 48, 3) := by decide +kernel
theorem dX6_commit_36 : decode cX6_commit 36 = .ok (.aload_n 0, 1) := by decide +kernel
theorem dX6_commit_37 : decode cX6_commit 37 = .ok (.getfield 23, 3) := by decide +kernel
theorem dX6_commit_40 : decode cX6_commit 40 = .ok (.iload_n 2, 1) := by decide +kernel
theorem dX6_commit_41 : decode cX6_commit 41 = .ok (.baload, 1) := by decide +kernel
theorem dX6_commit_42 : decode cX6_commit 42 = .ok (.ifCond .eq 33, 3) := by decide +kernel
theorem dX6_commit_45 : decode cX6_commit 45 = .ok (.aload_n 0, 1) := by decide +kernel
theorem dX6_commit_46 : decode cX6_commit 46 = .ok (.getfield 23, 3) := by decide +kernel
theorem dX6_commit_49 : decode cX6_commit 49 = .ok (.iload_n 2, 1) := by decide +kernel
theorem dX6_commit_50 : decode cX6_commit 50 = .ok (.iconst 0, 1) := by decide +kernel
theorem dX6_commit_51 : decode cX6_commit 51 = .ok (.bastore, 1) := by decide +kernel
theorem dX6_commit_52 : decode cX6_commit 52 = .ok (.aload_n 0, 1) := by decide +kernel
theorem dX6_commit_53 : decode cX6_commit 53 = .ok (.getfield 19, 3) := by decide +kernel
theorem dX6_commit_56 : decode cX6_commit 56 = .ok (.iload_n 2, 1) := by decide +kernel
theorem dX6_commit_57 : decode cX6_commit 57 = .ok (.aload_n 0, 1) := by decide +kernel
theorem dX6_commit_58 : decode cX6_commit 58 = .ok (.getfield 27, 3) := by decide +kernel
theorem dX6_commit_61 : decode cX6_commit 61 = .ok (.iload_n 2, 1) := by decide +kernel
theorem dX6_commit_62 : decode cX6_commit 62 = .ok (.baload, 1) := by decide +kernel
theorem dX6_commit_63 : decode cX6_commit 63 = .ok (.ifCond .eq 7, 3) := by decide +kernel
theorem dX6_commit_66 : decode cX6_commit 66 = .ok (.iconst (-1), 1) := by decide +kernel
theorem dX6_commit_67 : decode cX6_commit 67 = .ok (.goto 7, 3) := by decide +kernel
theorem dX6_commit_70 : decode cX6_commit 70 = .ok (.aload_n 0, 1) := by decide +kernel
theorem dX6_commit_71 : decode cX6_commit 71 = .ok (.getfield 121, 3) := by decide +kernel
theorem dX6_commit_74 : decode cX6_commit 74 = .ok (.iastore, 1) := by decide +kernel
theorem dX6_commit_75 : decode cX6_commit 75 = .ok (.iinc 2 1, 3) := by decide +kernel
theorem dX6_commit_78 : decode cX6_commit 78 = .ok (.goto (-50), 3) := by decide +kernel
theorem dX6_commit_81 : decode cX6_commit 81 = .ok (.aload_n 0, 1) := by decide +kernel
theorem dX6_commit_82 : decode cX6_commit 82 = .ok (.dup, 1) := by decide +kernel
theorem dX6_commit_83 : decode cX6_commit 83 = .ok (.getfield 121, 3) := by decide +kernel
theorem dX6_commit_86 : decode cX6_commit 86 = .ok (.iload_n 1, 1) := by decide +kernel
theorem dX6_commit_87 : decode cX6_commit 87 = .ok (.ifCond .le 7, 3) := by decide +kernel
theorem dX6_commit_90 : decode cX6_commit 90 = .ok (.iconst 1, 1) := by decide +kernel
theorem dX6_commit_91 : decode cX6_commit 91 = .ok (.goto 4, 3) := by decide +kernel
theorem dX6_commit_94 : decode cX6_commit 94 = .ok (.iconst 0, 1) := by decide +kernel
theorem dX6_commit_95 : decode cX6_commit 95 = .ok (.iadd, 1) := by decide +kernel
theorem dX6_commit_96 : decode cX6_commit 96 = .ok (.putfield 121, 3) := by decide +kernel
theorem dX6_commit_99 : decode cX6_commit 99 = .ok (.iload_n 1, 1) := by decide +kernel
theorem dX6_commit_100 : decode cX6_commit 100 = .ok (.ireturn, 1) := by decide +kernel
set_option maxRecDepth 20000 in
theorem ggX6_merge_X6_liveIn : GoodIn wsX6_merge wsX6_liveIn := goodIn_r _ [10, 3, 4, 11, 5, 12, 13, 14, 15, 16, 17, 18, 19, 20, 21, 22, 23, 24, 25, 26, 27, 28, 29, 30, 31, 32, 33, 34, 35, 36, 37, 38, 39, 40, 41] (by decide +kernel) (by decide +kernel)
set_option maxRecDepth 20000 in
theorem gX6_merge_X6_liveIn : GoodIn wsX6_merge (wsV RX6 114 RX6 yX6_liveIn wsX6_liveIn) := goodIn_app (goodIn_of _ (by decide +kernel)) ggX6_merge_X6_liveIn
theorem dX6_merge_0 : decode cX6_merge 0 = .ok (.aload_n 0, 1) := by decide +kernel
theorem dX6_merge_1 : decode cX6_merge 1 = .ok (.iconst 0, 1) := by decide +kernel
theorem dX6_merge_2 : decode cX6_merge 2 = .ok (.putfield 81, 3) := by decide +kernel
theorem dX6_merge_5 : decode cX6_merge 5 = .ok (.iconst 0, 1) := by decide +kernel
theorem dX6_merge_6 : decode cX6_merge 6 = .ok (.istore_n 2, 1) := by decide +kernel
theorem dX6_merge_7 : decode cX6_merge 7 = .ok (.iconst 0, 1) := by decide +kernel
theorem dX6_merge_8 : decode cX6_merge 8 = .ok (.istore_n 3, 1) := by decide +kernel
theorem dX6_merge_9 : decode cX6_merge 9 = .ok (.iconst 0, 1) := by decide +kernel
theorem dX6_merge_10 : decode cX6_merge 10 = .ok (.istore 4, 2) := by decide +kernel
theorem dX6_merge_12 : decode cX6_merge 12 = .ok (.iload 4, 2) := by decide +kernel
theorem dX6_merge_14 : decode cX6_merge 14 = .ok (.aload_n 0, 1) := by decide +kernel
theorem dX6_merge_15 : decode cX6_merge 15 = .ok (.getfield 121, 3) := by decide +kernel
theorem dX6_merge_18 : decode cX6_merge 18 = .ok (.if_icmp .ge 36, 3) := by decide +kernel
theorem dX6_merge_21 : decode cX6_merge 21 = .ok (.aload_n 0, 1) := by decide +kernel
theorem dX6_merge_22 : decode cX6_merge 22 = .ok (.iload 4, 2) := by decide +kernel
theorem dX6_merge_24 : decode cX6_merge 24 = .ok (.invokevirtual 114, 3) := by decide +kernel
theorem dX6_merge_27 : decode cX6_merge 27 = .ok (.istore 5, 2) := by decide +kernel
theorem dX6_merge_29 : decode cX6_merge 29 = .ok (.iload 5, 2) := by decide +kernel
theorem dX6_merge_31 : decode cX6_merge 31 = .ok (.ifCond .le 17, 3) := by decide +kernel
theorem dX6_merge_34 : decode cX6_merge 34 = .ok (.iload 5, 2) := by decide +kernel
theorem dX6_merge_36 : decode cX6_merge 36 = .ok (.iload_n 1, 1) := by decide +kernel
theorem dX6_merge_37 : decode cX6_merge 37 = .ok (.if_icmp .ge 11, 3) := by decide +kernel
theorem dX6_merge_40 : decode cX6_merge 40 = .ok (.iinc 2 1, 3) := by decide +kernel
theorem dX6_merge_43 : decode cX6_merge 43 = .ok (.iload_n 3, 1) := by decide +kernel
theorem dX6_merge_44 : decode cX6_merge 44 = .ok (.iload 5, 2) := by decide +kernel
theorem dX6_merge_46 : decode cX6_merge 46 = .ok (.iadd, 1) := by decide +kernel
theorem dX6_merge_47 : decode cX6_merge 47 = .ok (.istore_n 3, 1) := by decide +kernel
theorem dX6_merge_48 : decode cX6_merge 48 = .ok (.iinc 4 1, 3) := by decide +kernel
theorem dX6_merge_51 : decode cX6_merge 51 = .ok (.goto (-39), 3) := by decide +kernel
theorem dX6_merge_54 : decode cX6_merge 54 = .ok (.iload_n 2, 1) := by decide +kernel
theorem dX6_merge_55 : decode cX6_merge 55 = .ok (.iconst 2, 1) := by decide +kernel
theorem dX6_merge_56 : decode cX6_merge 56 = .ok (.if_icmp .ge 5, 3) := by decide +kernel
theorem dX6_merge_59 : decode cX6_merge 59 = .ok (.iconst 0, 1) := by decide +kernel
theorem dX6_merge_60 : decode cX6_merge 60 = .ok (.ireturn, 1) := by decide +kernel
theorem dX6_merge_61 : decode cX6_merge 61 = .ok (.aload_n 0, 1) := by decide +kernel
theorem dX6_merge_62 : decode cX6_merge 62 = .ok (.getfield 121, 3) := by decide +kernel
theorem dX6_merge_65 : decode cX6_merge 65 = .ok (.bipush 40, 2) := by decide +kernel
theorem dX6_merge_67 : decode cX6_merge 67 = .ok (.if_icmp .ne 6, 3) := by decide +kernel
theorem dX6_merge_70 : decode cX6_merge 70 = .ok (.bipush (-4), 2) := by decide +kernel
theorem dX6_merge_72 : decode cX6_merge 72 = .ok (.ireturn, 1) := by decide +kernel
theorem dX6_merge_73 : decode cX6_merge 73 = .ok (.aload_n 0, 1) := by decide +kernel
theorem dX6_merge_74 : decode cX6_merge 74 = .ok (.getfield 121, 3) := by decide +kernel
theorem dX6_merge_77 : decode cX6_merge 77 = .ok (.istore 4, 2) := by decide +kernel
theorem dX6_merge_79 : decode cX6_merge 79 = .ok (.iconst 0, 1) := by decide +kernel
theorem dX6_merge_80 : decode cX6_merge 80 = .ok (.istore 5, 2) := by decide +kernel
theorem dX6_merge_82 : decode cX6_merge 82 = .ok (.iload 5, 2) := by decide +kernel
theorem dX6_merge_84 : decode cX6_merge 84 = .ok (.iload 4, 2) := by decide +kernel
theorem dX6_merge_86 : decode cX6_merge 86 = .ok (.if_icmp .ge 77, 3) := by decide +kernel
theorem dX6_merge_89 : decode cX6_merge 89 = .ok (.aload_n 0, 1) := by decide +kernel
theorem dX6_merge_90 : decode cX6_merge 90 = .ok (.iload 5, 2) := by decide +kernel
theorem dX6_merge_92 : decode cX6_merge 92 = .ok (.invokevirtual 114, 3) := by decide +kernel
theorem dX6_merge_95 : decode cX6_merge 95 = .ok (.istore 6, 2) := by decide +kernel
theorem dX6_merge_97 : decode cX6_merge 97 = .ok (.iconst 0, 1) := by decide +kernel
theorem dX6_merge_98 : decode cX6_merge 98 = .ok (.istore 7, 2) := by decide +kernel
theorem dX6_merge_100 : decode cX6_merge 100 = .ok (.iload 7, 2) := by decide +kernel
theorem dX6_merge_102 : decode cX6_merge 102 = .ok (.aload_n 0, 1) := by decide +kernel
theorem dX6_merge_103 : decode cX6_merge 103 = .ok (.getfield 97, 3) := by decide +kernel
theorem dX6_merge_106 : decode cX6_merge 106 = .ok (.if_icmp .ge 51, 3) := by decide +kernel
theorem dX6_merge_109 : decode cX6_merge 109 = .ok (.iload 6, 2) := by decide +kernel
theorem dX6_merge_111 : decode cX6_merge 111 = .ok (.ifCond .le 46, 3) := by decide +kernel
theorem dX6_merge_114 : decode cX6_merge 114 = .ok (.iload 6, 2) := by decide +kernel
theorem dX6_merge_116 : decode cX6_merge 116 = .ok (.iload_n 1, 1) := by decide +kernel
theorem dX6_merge_117 : decode cX6_merge 117 = .ok (.if_icmp .ge 40, 3) := by decide +kernel
theorem dX6_merge_120 : decode cX6_merge 120 = .ok (.aload_n 0, 1) := by decide +kernel
theorem dX6_merge_121 : decode cX6_merge 121 = .ok (.getfield 19, 3) := by decide +kernel
theorem dX6_merge_124 : decode cX6_merge 124 = .ok (.iload 7, 2) := by decide +kernel
theorem dX6_merge_126 : decode cX6_merge 126 = .ok (.iaload, 1) := by decide +kernel
theorem dX6_merge_127 : decode cX6_merge 127 = .ok (.iload 5, 2) := by decide +kernel
theorem dX6_merge_129 : decode cX6_merge 129 = .ok (.if_icmp .ne 22, 3) := by decide +kernel
theorem dX6_merge_132 : decode cX6_merge 132 = .ok (.aload_n 0, 1) := by decide +kernel
theorem dX6_merge_133 : decode cX6_merge 133 = .ok (.getfield 27, 3) := by decide +kernel
theorem dX6_merge_136 : decode cX6_merge 136 = .ok (.iload 7, 2) := by decide +kernel
theorem dX6_merge_138 : decode cX6_merge 138 = .ok (.baload, 1) := by decide +kernel
theorem dX6_merge_139 : decode cX6_merge 139 = .ok (.ifCond .ne 12, 3) := by decide +kernel
theorem dX6_merge_142 : decode cX6_merge 142 = .ok (.aload_n 0, 1) := by decide +kernel
theorem dX6_merge_143 : decode cX6_merge 143 = .ok (.getfield 19, 3) := by decide +kernel
theorem dX6_merge_146 : decode cX6_merge 146 = .ok (.iload 7, 2) := by decide +kernel
theorem dX6_merge_148 : decode cX6_merge 148 = .ok (.iload 4, 2) := by decide +kernel
theorem dX6_merge_150 : decode cX6_merge 150 = .ok (.iastore, 1) := by decide +kernel
theorem dX6_merge_151 : decode cX6_merge 151 = .ok (.iinc 7 1, 3) := by decide +kernel
theorem dX6_merge_154 : decode cX6_merge 154 = .ok (.goto (-54), 3) := by decide +kernel
theorem dX6_merge_157 : decode cX6_merge 157 = .ok (.iinc 5 1, 3) := by decide +kernel
theorem dX6_merge_160 : decode cX6_merge 160 = .ok (.goto (-78), 3) := by decide +kernel
theorem dX6_merge_163 : decode cX6_merge 163 = .ok (.aload_n 0, 1) := by decide +kernel
theorem dX6_merge_164 : decode cX6_merge 164 = .ok (.dup, 1) := by decide +kernel
theorem dX6_merge_165 : decode cX6_merge 165 = .ok (.getfield 121, 3) := by decide +kernel
theorem dX6_merge_168 : decode cX6_merge 168 = .ok (.iconst 1, 1) := by decide +kernel
theorem dX6_merge_169 : decode cX6_merge 169 = .ok (.iadd, 1) := by decide +kernel
theorem dX6_merge_170 : decode cX6_merge 170 = .ok (.putfield 121, 3) := by decide +kernel
theorem dX6_merge_173 : decode cX6_merge 173 = .ok (.iload_n 3, 1) := by decide +kernel
theorem dX6_merge_174 : decode cX6_merge 174 = .ok (.ireturn, 1) := by decide +kernel
set_option maxRecDepth 20000 in
theorem ggX6_object_X6_fails : GoodIn wsX6_object wsX6_fails := goodIn_r _ [12, 1, 13, 14, 15, 16, 17, 18, 19, 20, 21, 22, 23, 24, 25, 26, 27, 28, 29, 30, 31, 32, 33, 34, 35, 36, 37, 38, 39, 40, 41, 42] (by decide +kernel) (by decide +kernel)
set_option maxRecDepth 20000 in
theorem gX6_object_X6_fails : GoodIn wsX6_object (wsV RX6 131 RX6 yX6_fails wsX6_fails) := goodIn_app (goodIn_of _ (by decide +kernel)) ggX6_object_X6_fails
theorem dX6_object_0 : decode cX6_object 0 = .ok (.aload_n 0, 1) := by decide +kernel
theorem dX6_object_1 : decode cX6_object 1 = .ok (.iconst 0, 1) := by decide +kernel
theorem dX6_object_2 : decode cX6_object 2 = .ok (.putfield 81, 3) := by decide +kernel
theorem dX6_object_5 : decode cX6_object 5 = .ok (.iload_n 1, 1) := by decide +kernel
theorem dX6_object_6 : decode cX6_object 6 = .ok (.ifCond .lt 20, 3) := by decide +kernel
theorem dX6_object_9 : decode cX6_object 9 = .ok (.iload_n 1, 1) := by decide +kernel
theorem dX6_object_10 : decode cX6_object 10 = .ok (.aload_n 0, 1) := by decide +kernel
theorem dX6_object_11 : decode cX6_object 11 = .ok (.getfield 97, 3) := by decide +kernel
theorem dX6_object_14 : decode cX6_object 14 = .ok (.if_icmp .ge 12, 3) := by decide +kernel
theorem dX6_object_17 : decode cX6_object 17 = .ok (.iload_n 2, 1) := by decide +kernel
theorem dX6_object_18 : decode cX6_object 18 = .ok (.ifCond .lt 8, 3) := by decide +kernel
theorem dX6_object_21 : decode cX6_object 21 = .ok (.iload_n 2, 1) := by decide +kernel
theorem dX6_object_22 : decode cX6_object 22 = .ok (.iconst 4, 1) := by decide +kernel
theorem dX6_object_23 : decode cX6_object 23 = .ok (.if_icmp .le 10, 3) := by decide +kernel
theorem dX6_object_26 : decode cX6_object 26 = .ok (.aload_n 0, 1) := by decide +kernel
theorem dX6_object_27 : decode cX6_object 27 = .ok (.iconst 1, 1) := by decide +kernel
theorem dX6_object_28 : decode cX6_object 28 = .ok (.invokevirtual 131, 3) := by decide +kernel
theorem dX6_object_31 : decode cX6_object 31 = .ok (.i2l, 1) := by decide +kernel
theorem dX6_object_32 : decode cX6_object 32 = .ok (.lreturn, 1) := by decide +kernel
theorem dX6_object_33 : decode cX6_object 33 = .ok (.iload_n 2, 1) := by decide +kernel
theorem dX6_object_34 : decode cX6_object 34 = .ok (.ifCond .ne 12, 3) := by decide +kernel
theorem dX6_object_37 : decode cX6_object 37 = .ok (.aload_n 0, 1) := by decide +kernel
theorem dX6_object_38 : decode cX6_object 38 = .ok (.getfield 7, 3) := by decide +kernel
theorem dX6_object_41 : decode cX6_object 41 = .ok (.iload_n 1, 1) := by decide +kernel
theorem dX6_object_42 : decode cX6_object 42 = .ok (.laload, 1) := by decide +kernel
theorem dX6_object_43 : decode cX6_object 43 = .ok (.goto 60, 3) := by decide +kernel
theorem dX6_object_46 : decode cX6_object 46 = .ok (.iload_n 2, 1) := by decide +kernel
theorem dX6_object_47 : decode cX6_object 47 = .ok (.iconst 1, 1) := by decide +kernel
theorem dX6_object_48 : decode cX6_object 48 = .ok (.if_icmp .ne 12, 3) := by decide +kernel
theorem dX6_object_51 : decode cX6_object 51 = .ok (.aload_n 0, 1) := by decide +kernel
theorem dX6_object_52 : decode cX6_object 52 = .ok (.getfield 13, 3) := by decide +kernel
theorem dX6_object_55 : decode cX6_object 55 = .ok (.iload_n 1, 1) := by decide +kernel
theorem dX6_object_56 : decode cX6_object 56 = .ok (.laload, 1) := by decide +kernel
theorem dX6_object_57 : decode cX6_object 57 = .ok (.goto 46, 3) := by decide +kernel
theorem dX6_object_60 : decode cX6_object 60 = .ok (.iload_n 2, 1) := by decide +kernel
theorem dX6_object_61 : decode cX6_object 61 = .ok (.iconst 2, 1) := by decide +kernel
theorem dX6_object_62 : decode cX6_object 62 = .ok (.if_icmp .ne 12, 3) := by decide +kernel
theorem dX6_object_65 : decode cX6_object 65 = .ok (.aload_n 0, 1) := by decide +kernel
theorem dX6_object_66 : decode cX6_object 66 = .ok (.getfield 16, 3) := by decide +kernel
theorem dX6_object_69 : decode cX6_object 69 = .ok (.iload_n 1, 1) := by decide +kernel
theorem dX6_object_70 : decode cX6_object 70 = .ok (.laload, 1) := by decide +kernel
theorem dX6_object_71 : decode cX6_object 71 = .ok (.goto 32, 3) := by decide +kernel
theorem dX6_object_74 : decode cX6_object 74 = .ok (.iload_n 2, 1) := by decide +kernel
theorem dX6_object_75 : decode cX6_object 75 = .ok (.iconst 3, 1) := by decide +kernel
theorem dX6_object_76 : decode cX6_object 76 = .ok (.if_icmp .ne 13, 3) := by decide +kernel
theorem dX6_object_79 : decode cX6_object 79 = .ok (.aload_n 0, 1) := by decide +kernel
theorem dX6_object_80 : decode cX6_object 80 = .ok (.getfield 19, 3) := by decide +kernel
theorem dX6_object_83 : decode cX6_object 83 = .ok (.iload_n 1, 1) := by decide +kernel
theorem dX6_object_84 : decode cX6_object 84 = .ok (.iaload, 1) := by decide +kernel
theorem dX6_object_85 : decode cX6_object 85 = .ok (.i2l, 1) := by decide +kernel
theorem dX6_object_86 : decode cX6_object 86 = .ok (.goto 17, 3) := by decide +kernel
theorem dX6_object_89 : decode cX6_object 89 = .ok (.aload_n 0, 1) := by decide +kernel
theorem dX6_object_90 : decode cX6_object 90 = .ok (.getfield 27, 3) := by decide +kernel
theorem dX6_object_93 : decode cX6_object 93 = .ok (.iload_n 1, 1) := by decide +kernel
theorem dX6_object_94 : decode cX6_object 94 = .ok (.baload, 1) := by decide +kernel
theorem dX6_object_95 : decode cX6_object 95 = .ok (.ifCond .eq 7, 3) := by decide +kernel
theorem dX6_object_98 : decode cX6_object 98 = .ok (.lconst 1, 1) := by decide +kernel
theorem dX6_object_99 : decode cX6_object 99 = .ok (.goto 4, 3) := by decide +kernel
theorem dX6_object_102 : decode cX6_object 102 = .ok (.lconst 0, 1) := by decide +kernel
theorem dX6_object_103 : decode cX6_object 103 = .ok (.lreturn, 1) := by decide +kernel
set_option maxRecDepth 20000 in
theorem ggX6_segment_X6_fails : GoodIn wsX6_segment wsX6_fails := goodIn_r _ [7, 1, 27, 28, 29, 30, 31, 32, 33, 34, 35, 36, 37, 38, 39, 40, 41, 42, 43, 44, 45, 46, 47, 48, 49, 50, 51, 52, 53, 54, 55, 56] (by decide +kernel) (by decide +kernel)
set_option maxRecDepth 20000 in
theorem gX6_segment_X6_fails : GoodIn wsX6_segment (wsV RX6 131 RX6 yX6_fails wsX6_fails) := goodIn_app (goodIn_of _ (by decide +kernel)) ggX6_segment_X6_fails
set_option maxRecDepth 20000 in
theorem ggX6_segment_X6_liveIn : GoodIn wsX6_segment wsX6_liveIn := goodIn_r _ [11, 12, 13, 14, 15, 27, 28, 29, 30, 31, 32, 33, 34, 35, 36, 37, 38, 39, 40, 41, 42, 43, 44, 45, 46, 47, 48, 49, 50, 51, 52, 53, 54, 55, 56] (by decide +kernel) (by decide +kernel)
set_option maxRecDepth 20000 in
theorem gX6_segment_X6_liveIn : GoodIn wsX6_segment (wsV RX6 114 RX6 yX6_liveIn wsX6_liveIn) := goodIn_app (goodIn_of _ (by decide +kernel)) ggX6_segment_X6_liveIn
set_option maxRecDepth 20000 in
theorem ggX6_segment_X6_stateOf : GoodIn wsX6_segment wsX6_stateOf := goodIn_r _ [19, 8, 9, 10, 6, 11, 12, 13, 14, 15, 20, 21, 22, 23, 24, 25, 26, 27, 28, 29, 30, 31, 32, 33, 34, 35, 36, 37, 38, 39, 40, 41, 42, 43, 44, 45, 46, 47, 48, 49, 50, 51, 52, 53, 54, 55, 56] (by decide +kernel) (by decide +kernel)
set_option maxRecDepth 20000 in
theorem gX6_segment_X6_stateOf : GoodIn wsX6_segment (wsV RX6 124 RX6 yX6_stateOf wsX6_stateOf) := goodIn_app (goodIn_of _ (by decide +kernel)) ggX6_segment_X6_stateOf
set_option maxRecDepth 20000 in
theorem ggX6_segment_X6_seenBy : GoodIn wsX6_segment wsX6_seenBy := goodIn_r _ [23, 24, 25, 26, 27, 28, 29, 30, 31, 32, 33, 34, 35, 36, 37, 38, 39, 40, 41, 42, 43, 44, 45, 46, 47, 48, 49, 50, 51, 52, 53, 54, 55, 56] (by decide +kernel) (by decide +kernel)
set_option maxRecDepth 20000 in
theorem gX6_segment_X6_seenBy : GoodIn wsX6_segment (wsV RX6 118 RX6 yX6_seenBy wsX6_seenBy) := goodIn_app (goodIn_of _ (by decide +kernel)) ggX6_segment_X6_seenBy
theorem dX6_segment_0 : decode cX6_segment 0 = .ok (.aload_n 0, 1) := by decide +kernel
theorem dX6_segment_1 : decode cX6_segment 1 = .ok (.iconst 0, 1) := by decide +kernel
theorem dX6_segment_2 : decode cX6_segment 2 = .ok (.putfield 81, 3) := by decide +kernel
theorem dX6_segment_5 : decode cX6_segment 5 = .ok (.iload_n 1, 1) := by decide +kernel
theorem dX6_segment_6 : decode cX6_segment 6 = .ok (.ifCond .lt 20, 3) := by decide +kernel
theorem dX6_segment_9 : decode cX6_segment 9 = .ok (.iload_n 1, 1) := by decide +kernel
theorem dX6_segment_10 : decode cX6_segment 10 = .ok (.aload_n 0, 1) := by decide +kernel
theorem dX6_segment_11 : decode cX6_segment 11 = .ok (.getfield 121, 3) := by decide +kernel
theorem dX6_segment_14 : decode cX6_segment 14 = .ok (.if_icmp .ge 12, 3) := by decide +kernel
theorem dX6_segment_17 : decode cX6_segment 17 = .ok (.iload_n 2, 1) := by decide +kernel
theorem dX6_segment_18 : decode cX6_segment 18 = .ok (.ifCond .lt 8, 3) := by decide +kernel
theorem dX6_segment_21 : decode cX6_segment 21 = .ok (.iload_n 2, 1) := by decide +kernel
theorem dX6_segment_22 : decode cX6_segment 22 = .ok (.iconst 2, 1) := by decide +kernel
theorem dX6_segment_23 : decode cX6_segment 23 = .ok (.if_icmp .le 9, 3) := by decide +kernel
theorem dX6_segment_26 : decode cX6_segment 26 = .ok (.aload_n 0, 1) := by decide +kernel
theorem dX6_segment_27 : decode cX6_segment 27 = .ok (.iconst 1, 1) := by decide +kernel
theorem dX6_segment_28 : decode cX6_segment 28 = .ok (.invokevirtual 131, 3) := by decide +kernel
theorem dX6_segment_31 : decode cX6_segment 31 = .ok (.ireturn, 1) := by decide +kernel
theorem dX6_segment_32 : decode cX6_segment 32 = .ok (.iload_n 2, 1) := by decide +kernel
theorem dX6_segment_33 : decode cX6_segment 33 = .ok (.ifCond .ne 11, 3) := by decide +kernel
theorem dX6_segment_36 : decode cX6_segment 36 = .ok (.aload_n 0, 1) := by decide +kernel
theorem dX6_segment_37 : decode cX6_segment 37 = .ok (.iload_n 1, 1) := by decide +kernel
theorem dX6_segment_38 : decode cX6_segment 38 = .ok (.invokevirtual 114, 3) := by decide +kernel
theorem dX6_segment_41 : decode cX6_segment 41 = .ok (.goto 21, 3) := by decide +kernel
theorem dX6_segment_44 : decode cX6_segment 44 = .ok (.iload_n 2, 1) := by decide +kernel
theorem dX6_segment_45 : decode cX6_segment 45 = .ok (.iconst 1, 1) := by decide +kernel
theorem dX6_segment_46 : decode cX6_segment 46 = .ok (.if_icmp .ne 11, 3) := by decide +kernel
theorem dX6_segment_49 : decode cX6_segment 49 = .ok (.aload_n 0, 1) := by decide +kernel
theorem dX6_segment_50 : decode cX6_segment 50 = .ok (.iload_n 1, 1) := by decide +kernel
theorem dX6_segment_51 : decode cX6_segment 51 = .ok (.invokevirtual 124, 3) := by decide +kernel
theorem dX6_segment_54 : decode cX6_segment 54 = .ok (.goto 8, 3) := by decide +kernel
theorem dX6_segment_57 : decode cX6_segment 57 = .ok (.aload_n 0, 1) := by decide +kernel
theorem dX6_segment_58 : decode cX6_segment 58 = .ok (.iload_n 1, 1) := by decide +kernel
theorem dX6_segment_59 : decode cX6_segment 59 = .ok (.invokevirtual 118, 3) := by decide +kernel
theorem dX6_segment_62 : decode cX6_segment 62 = .ok (.ireturn, 1) := by decide +kernel
theorem dX6_isView_0 : decode cX6_isView 0 = .ok (.iload_n 1, 1) := by decide +kernel
theorem dX6_isView_1 : decode cX6_isView 1 = .ok (.ifCond .lt 15, 3) := by decide +kernel
theorem dX6_isView_4 : decode cX6_isView 4 = .ok (.iload_n 1, 1) := by decide +kernel
theorem dX6_isView_5 : decode cX6_isView 5 = .ok (.aload_n 0, 1) := by decide +kernel
theorem dX6_isView_6 : decode cX6_isView 6 = .ok (.getfield 111, 3) := by decide +kernel
theorem dX6_isView_9 : decode cX6_isView 9 = .ok (.if_icmp .ge 7, 3) := by decide +kernel
theorem dX6_isView_12 : decode cX6_isView 12 = .ok (.iconst 1, 1) := by decide +kernel
theorem dX6_isView_13 : decode cX6_isView 13 = .ok (.goto 4, 3) := by decide +kernel
theorem dX6_isView_16 : decode cX6_isView 16 = .ok (.iconst 0, 1) := by decide +kernel
theorem dX6_isView_17 : decode cX6_isView 17 = .ok (.ireturn, 1) := by decide +kernel
theorem dX6_view_0 : decode cX6_view 0 = .ok (.aload_n 0, 1) := by decide +kernel
theorem dX6_view_1 : decode cX6_view 1 = .ok (.iconst 0, 1) := by decide +kernel
theorem dX6_view_2 : decode cX6_view 2 = .ok (.putfield 81, 3) := by decide +kernel
theorem dX6_view_5 : decode cX6_view 5 = .ok (.aload_n 0, 1) := by decide +kernel
theorem dX6_view_6 : decode cX6_view 6 = .ok (.getfield 111, 3) := by decide +kernel
theorem dX6_view_9 : decode cX6_view 9 = .ok (.bipush 30, 2) := by decide +kernel
theorem dX6_view_11 : decode cX6_view 11 = .ok (.if_icmp .ne 6, 3) := by decide +kernel
theorem dX6_view_14 : decode cX6_view 14 = .ok (.bipush (-4), 2) := by decide +kernel
theorem dX6_view_16 : decode cX6_view 16 = .ok (.ireturn, 1) := by decide +kernel
theorem dX6_view_17 : decode cX6_view 17 = .ok (.iconst 0, 1) := by decide +kernel
theorem dX6_view_18 : decode cX6_view 18 = .ok (.istore_n 1, 1) := by decide +kernel
theorem dX6_view_19 : decode cX6_view 19 = .ok (.iload_n 1, 1) := by decide +kernel
theorem dX6_view_20 : decode cX6_view 20 = .ok (.aload_n 0, 1) := by decide +kernel
theorem dX6_view_21 : decode cX6_view 21 = .ok (.getfield 97, 3) := by decide +kernel
theorem dX6_view_24 : decode cX6_view 24 = .ok (.if_icmp .ge 72, 3) := by decide +kernel
theorem dX6_view_27 : decode cX6_view 27 = .ok (.aload_n 0, 1) := by decide +kernel
theorem dX6_view_28 : decode cX6_view 28 = .ok (.getfield 23, 3) := by decide +kernel
theorem dX6_view_31 : decode cX6_view 31 = .ok (.iload_n 1, 1) := by decide +kernel
theorem dX6_view_32 : decode cX6_view 32 = .ok (.baload, 1) := by decide +kernel
theorem dX6_view_33 : decode cX6_view 33 = .ok (.ifCond .ne 57, 3) := by decide +kernel
theorem dX6_view_36 : decode cX6_view 36 = .ok (.aload_n 0, 1) := by decide +kernel
theorem dX6_view_37 : decode cX6_view 37 = .ok (.getfield 27, 3) := by decide +kernel
theorem dX6_view_40 : decode cX6_view 40 = .ok (.iload_n 1, 1) := by decide +kernel
theorem dX6_view_41 : decode cX6_view 41 = .ok (.baload, 1) := by decide +kernel
theorem dX6_view_42 : decode cX6_view 42 = .ok (.ifCond .ne 48, 3) := by decide +kernel
theorem dX6_view_45 : decode cX6_view 45 = .ok (.aload_n 0, 1) := by decide +kernel
theorem dX6_view_46 : decode cX6_view 46 = .ok (.getfield 19, 3) := by decide +kernel
theorem dX6_view_49 : decode cX6_view 49 = .ok (.iload_n 1, 1) := by decide +kernel
theorem dX6_view_50 : decode cX6_view 50 = .ok (.iaload, 1) := by decide +kernel
theorem dX6_view_51 : decode cX6_view 51 = .ok (.ifCond .lt 39, 3) := by decide +kernel
theorem dX6_view_54 : decode cX6_view 54 = .ok (.aload_n 0, 1) := by decide +kernel
theorem dX6_view_55 : decode cX6_view 55 = .ok (.getfield 33, 3) := by decide +kernel
theorem dX6_view_58 : decode cX6_view 58 = .ok (.sipush 300, 3) := by decide +kernel
theorem dX6_view_61 : decode cX6_view 61 = .ok (.aload_n 0, 1) := by decide +kernel
theorem dX6_view_62 : decode cX6_view 62 = .ok (.getfield 111, 3) := by decide +kernel
theorem dX6_view_65 : decode cX6_view 65 = .ok (.imul, 1) := by decide +kernel
theorem dX6_view_66 : decode cX6_view 66 = .ok (.iload_n 1, 1) := by decide +kernel
theorem dX6_view_67 : decode cX6_view 67 = .ok (.iadd, 1) := by decide +kernel
theorem dX6_view_68 : decode cX6_view 68 = .ok (.iconst 1, 1) := by decide +kernel
theorem dX6_view_69 : decode cX6_view 69 = .ok (.bastore, 1) := by decide +kernel
theorem dX6_view_70 : decode cX6_view 70 = .ok (.aload_n 0, 1) := by decide +kernel
theorem dX6_view_71 : decode cX6_view 71 = .ok (.getfield 36, 3) := by decide +kernel
theorem dX6_view_74 : decode cX6_view 74 = .ok (.bipush 40, 2) := by decide +kernel
theorem dX6_view_76 : decode cX6_view 76 = .ok (.aload_n 0, 1) := by decide +kernel
theorem dX6_view_77 : decode cX6_view 77 = .ok (.getfield 111, 3) := by decide +kernel
theorem dX6_view_80 : decode cX6_view 80 = .ok (.imul, 1) := by decide +kernel
theorem dX6_view_81 : decode cX6_view 81 = .ok (.aload_n 0, 1) := by decide +kernel
theorem dX6_view_82 : decode cX6_view 82 = .ok (.getfield 19, 3) := by decide +kernel
theorem dX6_view_85 : decode cX6_view 85 = .ok (.iload_n 1, 1) := by decide +kernel
theorem dX6_view_86 : decode cX6_view 86 = .ok (.iaload, 1) := by decide +kernel
theorem dX6_view_87 : decode cX6_view 87 = .ok (.iadd, 1) := by decide +kernel
theorem dX6_view_88 : decode cX6_view 88 = .ok (.iconst 1, 1) := by decide +kernel
theorem dX6_view_89 : decode cX6_view 89 = .ok (.bastore, 1) := by decide +kernel
theorem dX6_view_90 : decode cX6_view 90 = .ok (.iinc 1 1, 3) := by decide +kernel
theorem dX6_view_93 : decode cX6_view 93 = .ok (.goto (-74), 3) := by decide +kernel
theorem dX6_view_96 : decode cX6_view 96 = .ok (.aload_n 0, 1) := by decide +kernel
theorem dX6_view_97 : decode cX6_view 97 = .ok (.dup, 1) := by decide +kernel
theorem dX6_view_98 : decode cX6_view 98 = .ok (.getfield 111, 3) := by decide +kernel
theorem dX6_view_101 : decode cX6_view 101 = .ok (.iconst 1, 1) := by decide +kernel
theorem dX6_view_102 : decode cX6_view 102 = .ok (.iadd, 1) := by decide +kernel
theorem dX6_view_103 : decode cX6_view 103 = .ok (.putfield 111, 3) := by decide +kernel
theorem dX6_view_106 : decode cX6_view 106 = .ok (.aload_n 0, 1) := by decide +kernel
theorem dX6_view_107 : decode cX6_view 107 = .ok (.getfield 111, 3) := by decide +kernel
theorem dX6_view_110 : decode cX6_view 110 = .ok (.iconst 1, 1) := by decide +kernel
theorem dX6_view_111 : decode cX6_view 111 = .ok (.isub, 1) := by decide +kernel
theorem dX6_view_112 : decode cX6_view 112 = .ok (.ireturn, 1) := by decide +kernel
theorem dX6_settle_0 : decode cX6_settle 0 = .ok (.aload_n 0, 1) := by decide +kernel
theorem dX6_settle_1 : decode cX6_settle 1 = .ok (.getfield 30, 3) := by decide +kernel
theorem dX6_settle_4 : decode cX6_settle 4 = .ok (.iload_n 1, 1) := by decide +kernel
theorem dX6_settle_5 : decode cX6_settle 5 = .ok (.iaload, 1) := by decide +kernel
theorem dX6_settle_6 : decode cX6_settle 6 = .ok (.ifCond .ne 4, 3) := by decide +kernel
theorem dX6_settle_9 : decode cX6_settle 9 = .ok (.return_, 1) := by decide +kernel
theorem dX6_settle_10 : decode cX6_settle 10 = .ok (.iconst 0, 1) := by decide +kernel
theorem dX6_settle_11 : decode cX6_settle 11 = .ok (.istore_n 2, 1) := by decide +kernel
theorem dX6_settle_12 : decode cX6_settle 12 = .ok (.iconst 0, 1) := by decide +kernel
theorem dX6_settle_13 : decode cX6_settle 13 = .ok (.istore_n 3, 1) := by decide +kernel
theorem dX6_settle_14 : decode cX6_settle 14 = .ok (.iload_n 3, 1) := by decide +kernel
theorem dX6_settle_15 : decode cX6_settle 15 = .ok (.aload_n 0, 1) := by decide +kernel
theorem dX6_settle_16 : decode cX6_settle 16 = .ok (.getfield 134, 3) := by decide +kernel
theorem dX6_settle_19 : decode cX6_settle 19 = .ok (.if_icmp .ge 36, 3) := by decide +kernel
theorem dX6_settle_22 : decode cX6_settle 22 = .ok (.iload_n 2, 1) := by decide +kernel
theorem dX6_settle_23 : decode cX6_settle 23 = .ok (.aload_n 0, 1) := by decide +kernel
theorem dX6_settle_24 : decode cX6_settle 24 = .ok (.getfield 39, 3) := by decide +kernel
theorem dX6_settle_27 : decode cX6_settle 27 = .ok (.iload_n 3, 1) := by decide +kernel
theorem dX6_settle_28 : decode cX6_settle 28 = .ok (.iaload, 1) := by decide +kernel
theorem dX6_settle_29 : decode cX6_settle 29 = .ok (.iload_n 1, 1) := by decide +kernel
theorem dX6_settle_30 : decode cX6_settle 30 = .ok (.if_icmp .ne 16, 3) := by decide +kernel
theorem dX6_settle_33 : decode cX6_settle 33 = .ok (.aload_n 0, 1) := by decide +kernel
theorem dX6_settle_34 : decode cX6_settle 34 = .ok (.getfield 69, 3) := by decide +kernel
theorem dX6_settle_37 : decode cX6_settle 37 = .ok (.iload_n 3, 1) := by decide +kernel
theorem dX6_settle_38 : decode cX6_settle 38 = .ok (.baload, 1) := by decide +kernel
theorem dX6_settle_39 : decode cX6_settle 39 = .ok (.ifCond .ne 7, 3) := by decide +kernel
theorem dX6_settle_42 : decode cX6_settle 42 = .ok (.iconst 1, 1) := by decide +kernel
theorem dX6_settle_43 : decode cX6_settle 43 = .ok (.goto 4, 3) := by decide +kernel
theorem dX6_settle_46 : decode cX6_settle 46 = .ok (.iconst 0, 1) := by decide +kernel
theorem dX6_settle_47 : decode cX6_settle 47 = .ok (.ior, 1) := by decide +kernel
theorem dX6_settle_48 : decode cX6_settle 48 = .ok (.istore_n 2, 1) := by decide +kernel
theorem dX6_settle_49 : decode cX6_settle 49 = .ok (.iinc 3 1, 3) := by decide +kernel
theorem dX6_settle_52 : decode cX6_settle 52 = .ok (.goto (-38), 3) := by decide +kernel
theorem dX6_settle_55 : decode cX6_settle 55 = .ok (.aload_n 0, 1) := by decide +kernel
theorem dX6_settle_56 : decode cX6_settle 56 = .ok (.getfield 30, 3) := by decide +kernel
theorem dX6_settle_59 : decode cX6_settle 59 = .ok (.iload_n 1, 1) := by decide +kernel
theorem dX6_settle_60 : decode cX6_settle 60 = .ok (.iload_n 2, 1) := by decide +kernel
theorem dX6_settle_61 : decode cX6_settle 61 = .ok (.ifCond .eq 7, 3) := by decide +kernel
theorem dX6_settle_64 : decode cX6_settle 64 = .ok (.iconst 1, 1) := by decide +kernel
theorem dX6_settle_65 : decode cX6_settle 65 = .ok (.goto 4, 3) := by decide +kernel
theorem dX6_settle_68 : decode cX6_settle 68 = .ok (.iconst 2, 1) := by decide +kernel
theorem dX6_settle_69 : decode cX6_settle 69 = .ok (.iastore, 1) := by decide +kernel
theorem dX6_settle_70 : decode cX6_settle 70 = .ok (.iconst 0, 1) := by decide +kernel
theorem dX6_settle_71 : decode cX6_settle 71 = .ok (.istore_n 3, 1) := by decide +kernel
theorem dX6_settle_72 : decode cX6_settle 72 = .ok (.iload_n 3, 1) := by decide +kernel
theorem dX6_settle_73 : decode cX6_settle 73 = .ok (.sipush 300, 3) := by decide +kernel
theorem dX6_settle_76 : decode cX6_settle 76 = .ok (.if_icmp .ge 26, 3) := by decide +kernel
theorem dX6_settle_79 : decode cX6_settle 79 = .ok (.iload_n 2, 1) := by decide +kernel
theorem dX6_settle_80 : decode cX6_settle 80 = .ok (.ifCond .ne 22, 3) := by decide +kernel
theorem dX6_settle_83 : decode cX6_settle 83 = .ok (.aload_n 0, 1) := by decide +kernel
theorem dX6_settle_84 : decode cX6_settle 84 = .ok (.getfield 33, 3) := by decide +kernel
theorem dX6_settle_87 : decode cX6_settle 87 = .ok (.sipush 300, 3) := by decide +kernel
theorem dX6_settle_90 : decode cX6_settle 90 = .ok (.iload_n 1, 1) := by decide +kernel
theorem dX6_settle_91 : decode cX6_settle 91 = .ok (.imul, 1) := by decide +kernel
theorem dX6_settle_92 : decode cX6_settle 92 = .ok (.iload_n 3, 1) := by decide +kernel
theorem dX6_settle_93 : decode cX6_settle 93 = .ok (.iadd, 1) := by decide +kernel
theorem dX6_settle_94 : decode cX6_settle 94 = .ok (.iconst 0, 1) := by decide +kernel
theorem dX6_settle_95 : decode cX6_settle 95 = .ok (.bastore, 1) := by decide +kernel
theorem dX6_settle_96 : decode cX6_settle 96 = .ok (.iinc 3 1, 3) := by decide +kernel
theorem dX6_settle_99 : decode cX6_settle 99 = .ok (.goto (-27), 3) := by decide +kernel
theorem dX6_settle_102 : decode cX6_settle 102 = .ok (.return_, 1) := by decide +kernel
set_option maxRecDepth 20000 in
theorem ggX6_letGo_X6_isView : GoodIn wsX6_letGo wsX6_isView := goodIn_r _ [7, 8, 43, 44, 45, 46, 47, 48, 49, 50, 51, 52, 53, 54, 55, 56, 57, 58, 59, 60, 61, 62, 63, 64, 65, 66, 67, 68, 69, 70, 71, 72] (by decide +kernel) (by decide +kernel)
set_option maxRecDepth 20000 in
theorem gX6_letGo_X6_isView : GoodIn wsX6_letGo (wsV RX6 137 RX6 yX6_isView wsX6_isView) := goodIn_app (goodIn_of _ (by decide +kernel)) ggX6_letGo_X6_isView
set_option maxRecDepth 20000 in
theorem ggX6_letGo_X6_fails : GoodIn wsX6_letGo wsX6_fails := goodIn_r _ [12, 1, 43, 44, 45, 46, 47, 48, 49, 50, 51, 52, 53, 54, 55, 56, 57, 58, 59, 60, 61, 62, 63, 64, 65, 66, 67, 68, 69, 70, 71, 72] (by decide +kernel) (by decide +kernel)
set_option maxRecDepth 20000 in
theorem gX6_letGo_X6_fails : GoodIn wsX6_letGo (wsV RX6 131 RX6 yX6_fails wsX6_fails) := goodIn_app (goodIn_of _ (by decide +kernel)) ggX6_letGo_X6_fails
set_option maxRecDepth 20000 in
theorem ggX6_letGo_X6_countOf : GoodIn wsX6_letGo wsX6_countOf := goodIn_r _ [16, 17, 18, 19, 20, 6, 21, 22, 23, 24, 25, 26, 27, 28, 29, 30, 31, 32, 33, 8, 2, 34, 43, 44, 45, 46, 47, 48, 49, 50, 51, 52, 53, 54, 55, 56, 57, 58, 59, 60, 61, 62, 63, 64, 65, 66, 67, 68, 69, 70, 71, 72] (by decide +kernel) (by decide +kernel)
set_option maxRecDepth 20000 in
theorem gX6_letGo_X6_countOf : GoodIn wsX6_letGo (wsV RX6 141 RX6 yX6_countOf wsX6_countOf) := goodIn_app (goodIn_of _ (by decide +kernel)) ggX6_letGo_X6_countOf
set_option maxRecDepth 20000 in
theorem ggX6_letGo_X6_settle : GoodIn wsX6_letGo wsX6_settle := goodIn_r _ [38, 2, 39, 40, 41, 42, 43, 44, 45, 46, 47, 48, 49, 50, 51, 52, 53, 54, 55, 56, 57, 58, 59, 60, 61, 62, 63, 64, 65, 66, 67, 68, 69, 70, 71, 72] (by decide +kernel) (by decide +kernel)
set_option maxRecDepth 20000 in
theorem gX6_letGo_X6_settle : GoodIn wsX6_letGo (wsV RX6 144 RX6 yX6_settle wsX6_settle) := goodIn_app (goodIn_of _ (by decide +kernel)) ggX6_letGo_X6_settle
theorem dX6_letGo_0 : decode cX6_letGo 0 = .ok (.aload_n 0, 1) := by decide +kernel
theorem dX6_letGo_1 : decode cX6_letGo 1 = .ok (.iconst 0, 1) := by decide +kernel
theorem dX6_letGo_2 : decode cX6_letGo 2 = .ok (.putfield 81, 3) := by decide +kernel
theorem dX6_letGo_5 : decode cX6_letGo 5 = .ok (.aload_n 0, 1) := by decide +kernel
theorem dX6_letGo_6 : decode cX6_letGo 6 = .ok (.iload_n 1, 1) := by decide +kernel
theorem dX6_letGo_7 : decode cX6_letGo 7 = .ok (.invokevirtual 137, 3) := by decide +kernel
theorem dX6_letGo_10 : decode cX6_letGo 10 = .ok (.ifCond .ne 9, 3) := by decide +kernel
theorem dX6_letGo_13 : decode cX6_letGo 13 = .ok (.aload_n 0, 1) := by decide +kernel
theorem dX6_letGo_14 : decode cX6_letGo 14 = .ok (.iconst 1, 1) := by decide +kernel
theorem dX6_letGo_15 : decode cX6_letGo 15 = .ok (.invokevirtual 131, 3) := by decide +kernel
theorem dX6_letGo_18 : decode cX6_letGo 18 = .ok (.ireturn, 1) := by decide +kernel
theorem dX6_letGo_19 : decode cX6_letGo 19 = .ok (.aload_n 0, 1) := by decide +kernel
theorem dX6_letGo_20 : decode cX6_letGo 20 = .ok (.getfield 30, 3) := by decide +kernel
theorem dX6_letGo_23 : decode cX6_letGo 23 = .ok (.iload_n 1, 1) := by decide +kernel
theorem dX6_letGo_24 : decode cX6_letGo 24 = .ok (.iaload, 1) := by decide +kernel
theorem dX6_letGo_25 : decode cX6_letGo 25 = .ok (.ifCond .eq 9, 3) := by decide +kernel
theorem dX6_letGo_28 : decode cX6_letGo 28 = .ok (.aload_n 0, 1) := by decide +kernel
theorem dX6_letGo_29 : decode cX6_letGo 29 = .ok (.iconst 2, 1) := by decide +kernel
theorem dX6_letGo_30 : decode cX6_letGo 30 = .ok (.invokevirtual 131, 3) := by decide +kernel
theorem dX6_letGo_33 : decode cX6_letGo 33 = .ok (.ireturn, 1) := by decide +kernel
theorem dX6_letGo_34 : decode cX6_letGo 34 = .ok (.aload_n 0, 1) := by decide +kernel
theorem dX6_letGo_35 : decode cX6_letGo 35 = .ok (.iconst 2, 1) := by decide +kernel
theorem dX6_letGo_36 : decode cX6_letGo 36 = .ok (.invokevirtual 141, 3) := by decide +kernel
theorem dX6_letGo_39 : decode cX6_letGo 39 = .ok (.istore_n 2, 1) := by decide +kernel
theorem dX6_letGo_40 : decode cX6_letGo 40 = .ok (.aload_n 0, 1) := by decide +kernel
theorem dX6_letGo_41 : decode cX6_letGo 41 = .ok (.getfield 30, 3) := by decide +kernel
theorem dX6_letGo_44 : decode cX6_letGo 44 = .ok (.iload_n 1, 1) := by decide +kernel
theorem dX6_letGo_45 : decode cX6_letGo 45 = .ok (.iconst 1, 1) := by decide +kernel
theorem dX6_letGo_46 : decode cX6_letGo 46 = .ok (.iastore, 1) := by decide +kernel
theorem dX6_letGo_47 : decode cX6_letGo 47 = .ok (.aload_n 0, 1) := by decide +kernel
theorem dX6_letGo_48 : decode cX6_letGo 48 = .ok (.iload_n 1, 1) := by decide +kernel
theorem dX6_letGo_49 : decode cX6_letGo 49 = .ok (.invokevirtual 144, 3) := by decide +kernel
theorem dX6_letGo_52 : decode cX6_letGo 52 = .ok (.aload_n 0, 1) := by decide +kernel
theorem dX6_letGo_53 : decode cX6_letGo 53 = .ok (.iconst 2, 1) := by decide +kernel
theorem dX6_letGo_54 : decode cX6_letGo 54 = .ok (.invokevirtual 141, 3) := by decide +kernel
theorem dX6_letGo_57 : decode cX6_letGo 57 = .ok (.iload_n 2, 1) := by decide +kernel
theorem dX6_letGo_58 : decode cX6_letGo 58 = .ok (.isub, 1) := by decide +kernel
theorem dX6_letGo_59 : decode cX6_letGo 59 = .ok (.ireturn, 1) := by decide +kernel
set_option maxRecDepth 20000 in
theorem ggX6_state_X6_isView : GoodIn wsX6_state wsX6_isView := goodIn_r _ [7, 8, 13, 14, 15, 16, 17, 18, 19, 20, 21, 22, 23, 24, 25, 26, 27, 28, 29, 30, 31, 32, 33, 34, 35, 36, 37, 38, 39, 40, 41, 42] (by decide +kernel) (by decide +kernel)
set_option maxRecDepth 20000 in
theorem gX6_state_X6_isView : GoodIn wsX6_state (wsV RX6 137 RX6 yX6_isView wsX6_isView) := goodIn_app (goodIn_of _ (by decide +kernel)) ggX6_state_X6_isView
set_option maxRecDepth 20000 in
theorem ggX6_state_X6_fails : GoodIn wsX6_state wsX6_fails := goodIn_r _ [12, 1, 13, 14, 15, 16, 17, 18, 19, 20, 21, 22, 23, 24, 25, 26, 27, 28, 29, 30, 31, 32, 33, 34, 35, 36, 37, 38, 39, 40, 41, 42] (by decide +kernel) (by decide +kernel)
set_option maxRecDepth 20000 in
theorem gX6_state_X6_fails : GoodIn wsX6_state (wsV RX6 131 RX6 yX6_fails wsX6_fails) := goodIn_app (goodIn_of _ (by decide +kernel)) ggX6_state_X6_fails
theorem dX6_state_0 : decode cX6_state 0 = .ok (.aload_n 0, 1) := by decide +kernel
theorem dX6_state_1 : decode cX6_state 1 = .ok (.iconst 0, 1) := by decide +kernel
theorem dX6_state_2 : decode cX6_state 2 = .ok (.putfield 81, 3) := by decide +kernel
theorem dX6_state_5 : decode cX6_state 5 = .ok (.aload_n 0, 1) := by decide +kernel
theorem dX6_state_6 : decode cX6_state 6 = .ok (.iload_n 1, 1) := by decide +kernel
theorem dX6_state_7 : decode cX6_state 7 = .ok (.invokevirtual 137, 3) := by decide +kernel
theorem dX6_state_10 : decode cX6_state 10 = .ok (.ifCond .eq 12, 3) := by decide +kernel
theorem dX6_state_13 : decode cX6_state 13 = .ok (.aload_n 0, 1) := by decide +kernel
theorem dX6_state_14 : decode cX6_state 14 = .ok (.getfield 30, 3) := by decide +kernel
theorem dX6_state_17 : decode cX6_state 17 = .ok (.iload_n 1, 1) := by decide +kernel
theorem dX6_state_18 : decode cX6_state 18 = .ok (.iaload, 1) := by decide +kernel
theorem dX6_state_19 : decode cX6_state 19 = .ok (.goto 8, 3) := by decide +kernel
theorem dX6_state_22 : decode cX6_state 22 = .ok (.aload_n 0, 1) := by decide +kernel
theorem dX6_state_23 : decode cX6_state 23 = .ok (.iconst 1, 1) := by decide +kernel
theorem dX6_state_24 : decode cX6_state 24 = .ok (.invokevirtual 131, 3) := by decide +kernel
theorem dX6_state_27 : decode cX6_state 27 = .ok (.ireturn, 1) := by decide +kernel
set_option maxRecDepth 20000 in
theorem ggX6_sizeOf_X6_isIn : GoodIn wsX6_sizeOf wsX6_isIn := goodIn_r _ [6, 7, 8, 9, 10, 11, 12, 13, 14, 15, 16, 17, 18, 19, 20, 21, 22, 23, 24, 25, 26, 27, 28, 29, 30, 31, 32, 33, 34, 35, 36, 37] (by decide +kernel) (by decide +kernel)
set_option maxRecDepth 20000 in
theorem gX6_sizeOf_X6_isIn : GoodIn wsX6_sizeOf (wsV RX6 100 RX6 yX6_isIn wsX6_isIn) := goodIn_app (goodIn_of _ (by decide +kernel)) ggX6_sizeOf_X6_isIn
theorem dX6_sizeOf_0 : decode cX6_sizeOf 0 = .ok (.iconst 0, 1) := by decide +kernel
theorem dX6_sizeOf_1 : decode cX6_sizeOf 1 = .ok (.istore_n 2, 1) := by decide +kernel
theorem dX6_sizeOf_2 : decode cX6_sizeOf 2 = .ok (.iconst 0, 1) := by decide +kernel
theorem dX6_sizeOf_3 : decode cX6_sizeOf 3 = .ok (.istore_n 3, 1) := by decide +kernel
theorem dX6_sizeOf_4 : decode cX6_sizeOf 4 = .ok (.iload_n 3, 1) := by decide +kernel
theorem dX6_sizeOf_5 : decode cX6_sizeOf 5 = .ok (.aload_n 0, 1) := by decide +kernel
theorem dX6_sizeOf_6 : decode cX6_sizeOf 6 = .ok (.getfield 97, 3) := by decide +kernel
theorem dX6_sizeOf_9 : decode cX6_sizeOf 9 = .ok (.if_icmp .ge 26, 3) := by decide +kernel
theorem dX6_sizeOf_12 : decode cX6_sizeOf 12 = .ok (.iload_n 2, 1) := by decide +kernel
theorem dX6_sizeOf_13 : decode cX6_sizeOf 13 = .ok (.aload_n 0, 1) := by decide +kernel
theorem dX6_sizeOf_14 : decode cX6_sizeOf 14 = .ok (.iload_n 1, 1) := by decide +kernel
theorem dX6_sizeOf_15 : decode cX6_sizeOf 15 = .ok (.iload_n 3, 1) := by decide +kernel
theorem dX6_sizeOf_16 : decode cX6_sizeOf 16 = .ok (.invokevirtual 100, 3) := by decide +kernel
theorem dX6_sizeOf_19 : decode cX6_sizeOf 19 = .ok (.ifCond .eq 7, 3) := by decide +kernel
theorem dX6_sizeOf_22 : decode cX6_sizeOf 22 = .ok (.iconst 1, 1) := by decide +kernel
theorem dX6_sizeOf_23 : decode cX6_sizeOf 23 = .ok (.goto 4, 3) := by decide +kernel
theorem dX6_sizeOf_26 : decode cX6_sizeOf 26 = .ok (.iconst 0, 1) := by decide +kernel
theorem dX6_sizeOf_27 : decode cX6_sizeOf 27 = .ok (.iadd, 1) := by decide +kernel
theorem dX6_sizeOf_28 : decode cX6_sizeOf 28 = .ok (.istore_n 2, 1) := by decide +kernel
theorem dX6_sizeOf_29 : decode cX6_sizeOf 29 = .ok (.iinc 3 1, 3) := by decide +kernel
theorem dX6_sizeOf_32 : decode cX6_sizeOf 32 = .ok (.goto (-28), 3) := by decide +kernel
theorem dX6_sizeOf_35 : decode cX6_sizeOf 35 = .ok (.iload_n 2, 1) := by decide +kernel
theorem dX6_sizeOf_36 : decode cX6_sizeOf 36 = .ok (.ireturn, 1) := by decide +kernel
set_option maxRecDepth 20000 in
theorem ggX6_size_X6_isView : GoodIn wsX6_size wsX6_isView := goodIn_r _ [6, 7, 22, 23, 24, 25, 26, 27, 28, 29, 30, 31, 32, 33, 34, 35, 36, 37, 38, 39, 40, 41, 42, 43, 44, 45, 46, 47, 48, 49, 50, 51] (by decide +kernel) (by decide +kernel)
set_option maxRecDepth 20000 in
theorem gX6_size_X6_isView : GoodIn wsX6_size (wsV RX6 137 RX6 yX6_isView wsX6_isView) := goodIn_app (goodIn_of _ (by decide +kernel)) ggX6_size_X6_isView
set_option maxRecDepth 20000 in
theorem ggX6_size_X6_sizeOf : GoodIn wsX6_size wsX6_sizeOf := goodIn_r _ [11, 12, 13, 14, 15, 5, 16, 17, 22, 23, 24, 25, 26, 27, 28, 29, 30, 31, 32, 33, 34, 35, 36, 37, 38, 39, 40, 41, 42, 43, 44, 45, 46, 47, 48, 49, 50, 51] (by decide +kernel) (by decide +kernel)
set_option maxRecDepth 20000 in
theorem gX6_size_X6_sizeOf : GoodIn wsX6_size (wsV RX6 148 RX6 yX6_sizeOf wsX6_sizeOf) := goodIn_app (goodIn_of _ (by decide +kernel)) ggX6_size_X6_sizeOf
set_option maxRecDepth 20000 in
theorem ggX6_size_X6_fails : GoodIn wsX6_size wsX6_fails := goodIn_r _ [21, 1, 22, 23, 24, 25, 26, 27, 28, 29, 30, 31, 32, 33, 34, 35, 36, 37, 38, 39, 40, 41, 42, 43, 44, 45, 46, 47, 48, 49, 50, 51] (by decide +kernel) (by decide +kernel)
set_option maxRecDepth 20000 in
theorem gX6_size_X6_fails : GoodIn wsX6_size (wsV RX6 131 RX6 yX6_fails wsX6_fails) := goodIn_app (goodIn_of _ (by decide +kernel)) ggX6_size_X6_fails
theorem dX6_size_0 : decode cX6_size 0 = .ok (.aload_n 0, 1) := by decide +kernel
theorem dX6_size_1 : decode cX6_size 1 = .ok (.iconst 0, 1) := by decide +kernel
theorem dX6_size_2 : decode cX6_size 2 = .ok (.putfield 81, 3) := by decide +kernel
theorem dX6_size_5 : decode cX6_size 5 = .ok (.aload_n 0, 1) := by decide +kernel
theorem dX6_size_6 : decode cX6_size 6 = .ok (.iload_n 1, 1) := by decide +kernel
theorem dX6_size_7 : decode cX6_size 7 = .ok (.invokevirtual 137, 3) := by decide +kernel
theorem dX6_size_10 : decode cX6_size 10 = .ok (.ifCond .eq 11, 3) := by decide +kernel
theorem dX6_size_13 : decode cX6_size 13 = .ok (.aload_n 0, 1) := by decide +kernel
theorem dX6_size_14 : decode cX6_size 14 = .ok (.iload_n 1, 1) := by decide +kernel
theorem dX6_size_15 : decode cX6_size 15 = .ok (.invokevirtual 148, 3) := by decide +kernel
theorem dX6_size_18 : decode cX6_size 18 = .ok (.goto 8, 3) := by decide +kernel
theorem dX6_size_21 : decode cX6_size 21 = .ok (.aload_n 0, 1) := by decide +kernel
theorem dX6_size_22 : decode cX6_size 22 = .ok (.iconst 1, 1) := by decide +kernel
theorem dX6_size_23 : decode cX6_size 23 = .ok (.invokevirtual 131, 3) := by decide +kernel
theorem dX6_size_26 : decode cX6_size 26 = .ok (.ireturn, 1) := by decide +kernel
theorem dX6_isKind_0 : decode cX6_isKind 0 = .ok (.iload_n 0, 1) := by decide +kernel
theorem dX6_isKind_1 : decode cX6_isKind 1 = .ok (.ifCond .lt 12, 3) := by decide +kernel
theorem dX6_isKind_4 : decode cX6_isKind 4 = .ok (.iload_n 0, 1) := by decide +kernel
theorem dX6_isKind_5 : decode cX6_isKind 5 = .ok (.iconst 3, 1) := by decide +kernel
theorem dX6_isKind_6 : decode cX6_isKind 6 = .ok (.if_icmp .ge 7, 3) := by decide +kernel
theorem dX6_isKind_9 : decode cX6_isKind 9 = .ok (.iconst 1, 1) := by decide +kernel
theorem dX6_isKind_10 : decode cX6_isKind 10 = .ok (.goto 4, 3) := by decide +kernel
theorem dX6_isKind_13 : decode cX6_isKind 13 = .ok (.iconst 0, 1) := by decide +kernel
theorem dX6_isKind_14 : decode cX6_isKind 14 = .ok (.ireturn, 1) := by decide +kernel
set_option maxRecDepth 20000 in
theorem ggX6_hit_X6_isView : GoodIn wsX6_hit wsX6_isView := goodIn_r _ [6, 7, 42, 43, 44, 45, 46, 47, 48, 49, 50, 51, 52, 53, 54, 55, 56, 57, 58, 59, 60, 61, 62, 63, 64, 65, 66, 67, 68, 69, 70, 71] (by decide +kernel) (by decide +kernel)
set_option maxRecDepth 20000 in
theorem gX6_hit_X6_isView : GoodIn wsX6_hit (wsV RX6 137 RX6 yX6_isView wsX6_isView) := goodIn_app (goodIn_of _ (by decide +kernel)) ggX6_hit_X6_isView
set_option maxRecDepth 20000 in
theorem ggX6_hit_X6_sizeOf : GoodIn wsX6_hit wsX6_sizeOf := goodIn_r _ [11, 12, 13, 14, 15, 5, 16, 17, 42, 43, 44, 45, 46, 47, 48, 49, 50, 51, 52, 53, 54, 55, 56, 57, 58, 59, 60, 61, 62, 63, 64, 65, 66, 67, 68, 69, 70, 71] (by decide +kernel) (by decide +kernel)
set_option maxRecDepth 20000 in
theorem gX6_hit_X6_sizeOf : GoodIn wsX6_hit (wsV RX6 148 RX6 yX6_sizeOf wsX6_sizeOf) := goodIn_app (goodIn_of _ (by decide +kernel)) ggX6_hit_X6_sizeOf
set_option maxRecDepth 20000 in
theorem ggX6_hit_X6_fails : GoodIn wsX6_hit wsX6_fails := goodIn_r _ [21, 1, 42, 43, 44, 45, 46, 47, 48, 49, 50, 51, 52, 53, 54, 55, 56, 57, 58, 59, 60, 61, 62, 63, 64, 65, 66, 67, 68, 69, 70, 71] (by decide +kernel) (by decide +kernel)
set_option maxRecDepth 20000 in
theorem gX6_hit_X6_fails : GoodIn wsX6_hit (wsV RX6 131 RX6 yX6_fails wsX6_fails) := goodIn_app (goodIn_of _ (by decide +kernel)) ggX6_hit_X6_fails
set_option maxRecDepth 20000 in
theorem ggX6_hit_X6_isKind : GoodIn wsX6_hit wsX6_isKind := goodIn_r _ [24] (by decide +kernel) (by decide +kernel)
set_option maxRecDepth 20000 in
theorem gX6_hit_X6_isKind : GoodIn wsX6_hit (va_wsS RX6 151 yX6_isKind wsX6_isKind) := goodIn_app (goodIn_of _ (by decide +kernel)) ggX6_hit_X6_isKind
set_option maxRecDepth 20000 in
theorem ggX6_hit_X6_isIn : GoodIn wsX6_hit wsX6_isIn := goodIn_r _ [16, 17, 42, 43, 44, 45, 46, 47, 48, 49, 50, 51, 52, 53, 54, 55, 56, 57, 58, 59, 60, 61, 62, 63, 64, 65, 66, 67, 68, 69, 70, 71] (by decide +kernel) (by decide +kernel)
set_option maxRecDepth 20000 in
theorem gX6_hit_X6_isIn : GoodIn wsX6_hit (wsV RX6 100 RX6 yX6_isIn wsX6_isIn) := goodIn_app (goodIn_of _ (by decide +kernel)) ggX6_hit_X6_isIn
set_option maxRecDepth 20000 in
theorem ggX6_hit_X6_rank : GoodIn wsX6_hit wsX6_rank := goodIn_r _ [28, 12, 13, 14, 15, 5, 16, 17, 29, 30, 31, 32, 33, 34, 35, 36, 37, 38, 39, 40, 41, 42, 43, 44, 45, 46, 47, 48, 49, 50, 51, 52, 53, 54, 55, 56, 57, 58, 59, 60, 61, 62, 63, 64, 65, 66, 67, 68, 69, 70, 71] (by decide +kernel) (by decide +kernel)
set_option maxRecDepth 20000 in
theorem gX6_hit_X6_rank : GoodIn wsX6_hit (wsV RX6 154 RX6 yX6_rank wsX6_rank) := goodIn_app (goodIn_of _ (by decide +kernel)) ggX6_hit_X6_rank
theorem dX6_hit_0 : decode cX6_hit 0 = .ok (.aload_n 0, 1) := by decide +kernel
theorem dX6_hit_1 : decode cX6_hit 1 = .ok (.iconst 0, 1) := by decide +kernel
theorem dX6_hit_2 : decode cX6_hit 2 = .ok (.putfield 81, 3) := by decide +kernel
theorem dX6_hit_5 : decode cX6_hit 5 = .ok (.aload_n 0, 1) := by decide +kernel
theorem dX6_hit_6 : decode cX6_hit 6 = .ok (.iload_n 1, 1) := by decide +kernel
theorem dX6_hit_7 : decode cX6_hit 7 = .ok (.invokevirtual 137, 3) := by decide +kernel
theorem dX6_hit_10 : decode cX6_hit 10 = .ok (.ifCond .eq 18, 3) := by decide +kernel
