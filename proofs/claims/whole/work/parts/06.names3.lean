set_option maxRecDepth 20000 in
theorem gX5_next_X5_endIfAllGiven : GoodIn wsX5_next (wsV RX5 218 RX5 yX5_endIfAllGiven wsX5_endIfAllGiven) := goodIn_app (goodIn_of _ (by decide +kernel)) ggX5_next_X5_endIfAllGiven
theorem dX5_next_0 : decode cX5_next 0 = .ok (.aload_n 0, 1) := by decide +kernel
theorem dX5_next_1 : decode cX5_next 1 = .ok (.iload_n 1, 1) := by decide +kernel
theorem dX5_next_2 : decode cX5_next 2 = .ok (.invokevirtual 222, 3) := by decide +kernel
theorem dX5_next_5 : decode cX5_next 5 = .ok (.astore_n 2, 1) := by decide +kernel
theorem dX5_next_6 : decode cX5_next 6 = .ok (.aload_n 2, 1) := by decide +kernel
theorem dX5_next_7 : decode cX5_next 7 = .ok (.getfield 231, 3) := by decide +kernel
theorem dX5_next_10 : decode cX5_next 10 = .ok (.ifCond .eq 14, 3) := by decide +kernel
theorem dX5_next_13 : decode cX5_next 13 = .ok (.new 226, 3) := by decide +kernel
theorem dX5_next_16 : decode cX5_next 16 = .ok (.dup, 1) := by decide +kernel
theorem dX5_next_17 : decode cX5_next 17 = .ok (.ldc_w 265, 3) := by decide +kernel
theorem dX5_next_20 : decode cX5_next 20 = .ok (.invokespecial 230, 3) := by decide +kernel
theorem dX5_next_23 : decode cX5_next 23 = .ok (.athrow, 1) := by decide +kernel
theorem dX5_next_24 : decode cX5_next 24 = .ok (.aload_n 2, 1) := by decide +kernel
theorem dX5_next_25 : decode cX5_next 25 = .ok (.getfield 237, 3) := by decide +kernel
theorem dX5_next_28 : decode cX5_next 28 = .ok (.ifCond .ne 10, 3) := by decide +kernel
theorem dX5_next_31 : decode cX5_next 31 = .ok (.aload_n 2, 1) := by decide +kernel
theorem dX5_next_32 : decode cX5_next 32 = .ok (.invokevirtual 240, 3) := by decide +kernel
theorem dX5_next_35 : decode cX5_next 35 = .ok (.ifCond .ne 14, 3) := by decide +kernel
theorem dX5_next_38 : decode cX5_next 38 = .ok (.new 267, 3) := by decide +kernel
theorem dX5_next_41 : decode cX5_next 41 = .ok (.dup, 1) := by decide +kernel
theorem dX5_next_42 : decode cX5_next 42 = .ok (.ldc_w 269, 3) := by decide +kernel
theorem dX5_next_45 : decode cX5_next 45 = .ok (.invokespecial 271, 3) := by decide +kernel
theorem dX5_next_48 : decode cX5_next 48 = .ok (.athrow, 1) := by decide +kernel
theorem dX5_next_49 : decode cX5_next 49 = .ok (.aload_n 2, 1) := by decide +kernel
theorem dX5_next_50 : decode cX5_next 50 = .ok (.getfield 248, 3) := by decide +kernel
theorem dX5_next_53 : decode cX5_next 53 = .ok (.aload_n 2, 1) := by decide +kernel
theorem dX5_next_54 : decode cX5_next 54 = .ok (.getfield 251, 3) := by decide +kernel
theorem dX5_next_57 : decode cX5_next 57 = .ok (.iaload, 1) := by decide +kernel
theorem dX5_next_58 : decode cX5_next 58 = .ok (.istore_n 3, 1) := by decide +kernel
theorem dX5_next_59 : decode cX5_next 59 = .ok (.aload_n 2, 1) := by decide +kernel
theorem dX5_next_60 : decode cX5_next 60 = .ok (.dup, 1) := by decide +kernel
theorem dX5_next_61 : decode cX5_next 61 = .ok (.getfield 251, 3) := by decide +kernel
theorem dX5_next_64 : decode cX5_next 64 = .ok (.iconst 1, 1) := by decide +kernel
theorem dX5_next_65 : decode cX5_next 65 = .ok (.iadd, 1) := by decide +kernel
theorem dX5_next_66 : decode cX5_next 66 = .ok (.putfield 251, 3) := by decide +kernel
theorem dX5_next_69 : decode cX5_next 69 = .ok (.aload_n 0, 1) := by decide +kernel
theorem dX5_next_70 : decode cX5_next 70 = .ok (.aload_n 2, 1) := by decide +kernel
theorem dX5_next_71 : decode cX5_next 71 = .ok (.invokevirtual 218, 3) := by decide +kernel
theorem dX5_next_74 : decode cX5_next 74 = .ok (.iload_n 3, 1) := by decide +kernel
theorem dX5_next_75 : decode cX5_next 75 = .ok (.ireturn, 1) := by decide +kernel
set_option maxRecDepth 20000 in
theorem ggX5_left_X5_readerAt : GoodIn wsX5_left wsX5_readerAt := goodIn_ca (goodIn_r _ [6, 7, 8, 9, 10, 25, 26, 27, 28, 29, 30, 31, 32, 33, 34] (by decide +kernel) (by decide +kernel)) (goodIn_sub (fun _ h => List.mem_cons_of_mem _ (List.mem_append_right _ h)) (by decide +kernel))
set_option maxRecDepth 20000 in
theorem gX5_left_X5_readerAt : GoodIn wsX5_left (wsV RX5 222 RX5 yX5_readerAt wsX5_readerAt) := goodIn_app (goodIn_of _ (by decide +kernel)) ggX5_left_X5_readerAt
set_option maxRecDepth 20000 in
theorem ggX5_left_X1_countLeft : GoodIn wsX5_left wsX1_countLeft := goodIn_r _ [15, 16, 17, 18, 19, 20, 21, 22, 23, 24] (by decide +kernel) (by decide +kernel)
set_option maxRecDepth 20000 in
theorem gX5_left_X1_countLeft : GoodIn wsX5_left (wsV RX5 240 RX1 yX1_countLeft wsX1_countLeft) := goodIn_app (goodIn_of _ (by decide +kernel)) ggX5_left_X1_countLeft
theorem dX5_left_0 : decode cX5_left 0 = .ok (.aload_n 0, 1) := by decide +kernel
theorem dX5_left_1 : decode cX5_left 1 = .ok (.iload_n 1, 1) := by decide +kernel
theorem dX5_left_2 : decode cX5_left 2 = .ok (.invokevirtual 222, 3) := by decide +kernel
theorem dX5_left_5 : decode cX5_left 5 = .ok (.astore_n 2, 1) := by decide +kernel
theorem dX5_left_6 : decode cX5_left 6 = .ok (.aload_n 2, 1) := by decide +kernel
theorem dX5_left_7 : decode cX5_left 7 = .ok (.getfield 237, 3) := by decide +kernel
theorem dX5_left_10 : decode cX5_left 10 = .ok (.ifCond .eq 7, 3) := by decide +kernel
theorem dX5_left_13 : decode cX5_left 13 = .ok (.iconst (-1), 1) := by decide +kernel
theorem dX5_left_14 : decode cX5_left 14 = .ok (.goto 7, 3) := by decide +kernel
theorem dX5_left_17 : decode cX5_left 17 = .ok (.aload_n 2, 1) := by decide +kernel
theorem dX5_left_18 : decode cX5_left 18 = .ok (.invokevirtual 240, 3) := by decide +kernel
theorem dX5_left_21 : decode cX5_left 21 = .ok (.ireturn, 1) := by decide +kernel
set_option maxRecDepth 20000 in
theorem ggX5_close_X5_readerAt : GoodIn wsX5_close wsX5_readerAt := goodIn_ca (goodIn_r _ [5, 6, 7, 8, 9, 37, 38, 39, 40, 41, 42, 43, 44, 45, 46] (by decide +kernel) (by decide +kernel)) (goodIn_sub (fun _ h => List.mem_cons_of_mem _ (List.mem_append_right _ h)) (by decide +kernel))
set_option maxRecDepth 20000 in
theorem gX5_close_X5_readerAt : GoodIn wsX5_close (wsV RX5 222 RX5 yX5_readerAt wsX5_readerAt) := goodIn_app (goodIn_of _ (by decide +kernel)) ggX5_close_X5_readerAt
set_option maxRecDepth 20000 in
theorem ggX5_close_X5_endReader : GoodIn wsX5_close wsX5_endReader := goodIn_r _ [13, 14, 15, 16, 17, 18, 19, 4, 20, 21, 22, 23, 24, 25, 26, 27, 28, 29, 30, 31, 32, 33, 34, 35, 36, 47, 48, 49, 50, 51, 52, 53, 54, 55, 56, 57, 58, 59, 37, 38, 39, 40, 41, 42, 43, 44, 45, 46, 60, 61, 62] (by decide +kernel) (by decide +kernel)
set_option maxRecDepth 20000 in
theorem gX5_close_X5_endReader : GoodIn wsX5_close (wsV RX5 272 RX5 yX5_endReader wsX5_endReader) := goodIn_app (goodIn_of _ (by decide +kernel)) ggX5_close_X5_endReader
theorem dX5_close_0 : decode cX5_close 0 = .ok (.aload_n 0, 1) := by decide +kernel
theorem dX5_close_1 : decode cX5_close 1 = .ok (.aload_n 0, 1) := by decide +kernel
theorem dX5_close_2 : decode cX5_close 2 = .ok (.iload_n 1, 1) := by decide +kernel
theorem dX5_close_3 : decode cX5_close 3 = .ok (.invokevirtual 222, 3) := by decide +kernel
theorem dX5_close_6 : decode cX5_close 6 = .ok (.invokevirtual 272, 3) := by decide +kernel
theorem dX5_close_9 : decode cX5_close 9 = .ok (.ireturn, 1) := by decide +kernel
set_option maxRecDepth 20000 in
theorem ggX5_tick_X5_readerAt : GoodIn wsX5_tick wsX5_readerAt := goodIn_ca (goodIn_r _ [13, 14, 15, 5, 16, 43, 44, 45, 46, 47, 48, 49, 50, 51, 52] (by decide +kernel) (by decide +kernel)) (goodIn_sub (fun _ h => List.mem_cons_of_mem _ (List.mem_append_right _ h)) (by decide +kernel))
set_option maxRecDepth 20000 in
theorem gX5_tick_X5_readerAt : GoodIn wsX5_tick (wsV RX5 222 RX5 yX5_readerAt wsX5_readerAt) := goodIn_app (goodIn_of _ (by decide +kernel)) ggX5_tick_X5_readerAt
set_option maxRecDepth 20000 in
theorem ggX5_tick_X5_endReader : GoodIn wsX5_tick wsX5_endReader := goodIn_r _ [20, 7, 21, 22, 23, 24, 25, 12, 26, 27, 28, 29, 30, 31, 32, 33, 34, 35, 36, 37, 38, 39, 40, 41, 42, 53, 54, 55, 56, 57, 58, 59, 60, 61, 62, 63, 64, 65, 43, 44, 45, 46, 47, 48, 49, 50, 51, 52, 66, 67, 68] (by decide +kernel) (by decide +kernel)
set_option maxRecDepth 20000 in
theorem gX5_tick_X5_endReader : GoodIn wsX5_tick (wsV RX5 272 RX5 yX5_endReader wsX5_endReader) := goodIn_app (goodIn_of _ (by decide +kernel)) ggX5_tick_X5_endReader
theorem dX5_tick_0 : decode cX5_tick 0 = .ok (.iload_n 1, 1) := by decide +kernel
theorem dX5_tick_1 : decode cX5_tick 1 = .ok (.ifCond .lt 22, 3) := by decide +kernel
theorem dX5_tick_4 : decode cX5_tick 4 = .ok (.iload_n 1, 1) := by decide +kernel
theorem dX5_tick_5 : decode cX5_tick 5 = .ok (.sipush 10000, 3) := by decide +kernel
theorem dX5_tick_8 : decode cX5_tick 8 = .ok (.if_icmp .gt 15, 3) := by decide +kernel
theorem dX5_tick_11 : decode cX5_tick 11 = .ok (.aload_n 0, 1) := by decide +kernel
theorem dX5_tick_12 : decode cX5_tick 12 = .ok (.getfield 58, 3) := by decide +kernel
theorem dX5_tick_15 : decode cX5_tick 15 = .ok (.ldc_w 275, 3) := by decide +kernel
theorem dX5_tick_18 : decode cX5_tick 18 = .ok (.iload_n 1, 1) := by decide +kernel
theorem dX5_tick_19 : decode cX5_tick 19 = .ok (.isub, 1) := by decide +kernel
theorem dX5_tick_20 : decode cX5_tick 20 = .ok (.if_icmp .le 14, 3) := by decide +kernel
theorem dX5_tick_23 : decode cX5_tick 23 = .ok (.new 226, 3) := by decide +kernel
theorem dX5_tick_26 : decode cX5_tick 26 = .ok (.dup, 1) := by decide +kernel
theorem dX5_tick_27 : decode cX5_tick 27 = .ok (.ldc_w 276, 3) := by decide +kernel
theorem dX5_tick_30 : decode cX5_tick 30 = .ok (.invokespecial 230, 3) := by decide +kernel
theorem dX5_tick_33 : decode cX5_tick 33 = .ok (.athrow, 1) := by decide +kernel
theorem dX5_tick_34 : decode cX5_tick 34 = .ok (.aload_n 0, 1) := by decide +kernel
theorem dX5_tick_35 : decode cX5_tick 35 = .ok (.dup, 1) := by decide +kernel
theorem dX5_tick_36 : decode cX5_tick 36 = .ok (.getfield 58, 3) := by decide +kernel
theorem dX5_tick_39 : decode cX5_tick 39 = .ok (.iload_n 1, 1) := by decide +kernel
theorem dX5_tick_40 : decode cX5_tick 40 = .ok (.iadd, 1) := by decide +kernel
theorem dX5_tick_41 : decode cX5_tick 41 = .ok (.putfield 58, 3) := by decide +kernel
theorem dX5_tick_44 : decode cX5_tick 44 = .ok (.iconst 0, 1) := by decide +kernel
theorem dX5_tick_45 : decode cX5_tick 45 = .ok (.istore_n 2, 1) := by decide +kernel
theorem dX5_tick_46 : decode cX5_tick 46 = .ok (.iconst 0, 1) := by decide +kernel
theorem dX5_tick_47 : decode cX5_tick 47 = .ok (.istore_n 3, 1) := by decide +kernel
theorem dX5_tick_48 : decode cX5_tick 48 = .ok (.iload_n 3, 1) := by decide +kernel
theorem dX5_tick_49 : decode cX5_tick 49 = .ok (.aload_n 0, 1) := by decide +kernel
theorem dX5_tick_50 : decode cX5_tick 50 = .ok (.getfield 48, 3) := by decide +kernel
theorem dX5_tick_53 : decode cX5_tick 53 = .ok (.if_icmp .ge 54, 3) := by decide +kernel
theorem dX5_tick_56 : decode cX5_tick 56 = .ok (.aload_n 0, 1) := by decide +kernel
theorem dX5_tick_57 : decode cX5_tick 57 = .ok (.iload_n 3, 1) := by decide +kernel
theorem dX5_tick_58 : decode cX5_tick 58 = .ok (.invokevirtual 222, 3) := by decide +kernel
theorem dX5_tick_61 : decode cX5_tick 61 = .ok (.astore 4, 2) := by decide +kernel
theorem dX5_tick_63 : decode cX5_tick 63 = .ok (.aload 4, 2) := by decide +kernel
theorem dX5_tick_65 : decode cX5_tick 65 = .ok (.getfield 231, 3) := by decide +kernel
theorem dX5_tick_68 : decode cX5_tick 68 = .ok (.ifCond .eq 33, 3) := by decide +kernel
theorem dX5_tick_71 : decode cX5_tick 71 = .ok (.aload 4, 2) := by decide +kernel
theorem dX5_tick_73 : decode cX5_tick 73 = .ok (.getfield 237, 3) := by decide +kernel
theorem dX5_tick_76 : decode cX5_tick 76 = .ok (.ifCond .ne 25, 3) := by decide +kernel
theorem dX5_tick_79 : decode cX5_tick 79 = .ok (.aload_n 0, 1) := by decide +kernel
theorem dX5_tick_80 : decode cX5_tick 80 = .ok (.getfield 58, 3) := by decide +kernel
theorem dX5_tick_83 : decode cX5_tick 83 = .ok (.aload 4, 2) := by decide +kernel
theorem dX5_tick_85 : decode cX5_tick 85 = .ok (.getfield 204, 3) := by decide +kernel
theorem dX5_tick_88 : decode cX5_tick 88 = .ok (.if_icmp .le 13, 3) := by decide +kernel
theorem dX5_tick_91 : decode cX5_tick 91 = .ok (.aload_n 0, 1) := by decide +kernel
theorem dX5_tick_92 : decode cX5_tick 92 = .ok (.aload 4, 2) := by decide +kernel
theorem dX5_tick_94 : decode cX5_tick 94 = .ok (.invokevirtual 272, 3) := by decide +kernel
theorem dX5_tick_97 : decode cX5_tick 97 = .ok (.pop, 1) := by decide +kernel
theorem dX5_tick_98 : decode cX5_tick 98 = .ok (.iinc 2 1, 3) := by decide +kernel
theorem dX5_tick_101 : decode cX5_tick 101 = .ok (.iinc 3 1, 3) := by decide +kernel
theorem dX5_tick_104 : decode cX5_tick 104 = .ok (.goto (-56), 3) := by decide +kernel
theorem dX5_tick_107 : decode cX5_tick 107 = .ok (.iload_n 2, 1) := by decide +kernel
theorem dX5_tick_108 : decode cX5_tick 108 = .ok (.ireturn, 1) := by decide +kernel
set_option maxRecDepth 20000 in
theorem ggX5_told_X3_countNew : GoodIn wsX5_told wsX3_countNew := goodIn_r _ [15, 16, 17, 18, 62, 63, 64, 65, 66, 67, 68, 69] (by decide +kernel) (by decide +kernel)
set_option maxRecDepth 20000 in
theorem gX5_told_X3_countNew : GoodIn wsX5_told (wsV RX5 82 RX3 yX3_countNew wsX3_countNew) := goodIn_app (goodIn_of _ (by decide +kernel)) ggX5_told_X3_countNew
set_option maxRecDepth 20000 in
theorem ggX5_told_X2_countIn : GoodIn wsX5_told wsX2_countIn := goodIn_r _ [23, 24, 25, 26, 27, 22, 28, 29, 30, 70, 71, 72] (by decide +kernel) (by decide +kernel)
set_option maxRecDepth 20000 in
theorem gX5_told_X2_countIn : GoodIn wsX5_told (wsV RX5 278 RX2 yX2_countIn wsX2_countIn) := goodIn_app (goodIn_of _ (by decide +kernel)) ggX5_told_X2_countIn
set_option maxRecDepth 20000 in
theorem ggX5_told_X5_countViewsGoingOn : GoodIn wsX5_told wsX5_countViewsGoingOn := goodIn_ca (goodIn_r _ [35, 7, 36, 37, 38, 39, 34, 40, 1, 2, 41, 52, 53, 54, 55, 56, 57, 58, 59, 60, 61, 73, 74, 75, 76, 77, 78] (by decide +kernel) (by decide +kernel)) (goodIn_sub (fun _ h => List.mem_cons_of_mem _ (List.mem_append_right _ h)) (by decide +kernel))
set_option maxRecDepth 20000 in
theorem gX5_told_X5_countViewsGoingOn : GoodIn wsX5_told (wsV RX5 281 RX5 yX5_countViewsGoingOn wsX5_countViewsGoingOn) := goodIn_app (goodIn_of _ (by decide +kernel)) ggX5_told_X5_countViewsGoingOn
set_option maxRecDepth 20000 in
theorem ggX5_told_X5_countReadersGoingOn : GoodIn wsX5_told wsX5_countReadersGoingOn := goodIn_ca (goodIn_r _ [45, 8, 46, 47, 48, 49, 34, 50, 1, 2, 51, 52, 53, 54, 55, 56, 57, 58, 59, 60, 61, 79, 80, 81, 82, 83, 84, 85] (by decide +kernel) (by decide +kernel)) (goodIn_sub (fun _ h => List.mem_cons_of_mem _ (List.mem_append_right _ h)) (by decide +kernel))
set_option maxRecDepth 20000 in
theorem gX5_told_X5_countReadersGoingOn : GoodIn wsX5_told (wsV RX5 284 RX5 yX5_countReadersGoingOn wsX5_countReadersGoingOn) := goodIn_app (goodIn_of _ (by decide +kernel)) ggX5_told_X5_countReadersGoingOn
theorem dX5_told_0 : decode cX5_told 0 = .ok (.iload_n 1, 1) := by decide +kernel
theorem dX5_told_1 : decode cX5_told 1 = .ok (.tableswitch 144 0 11 #[63, 71, 79, 87, 96, 105, 114, 119, 124, 129, 134, 139], 63) := by decide +kernel
theorem dX5_told_64 : decode cX5_told 64 = .ok (.aload_n 0, 1) := by decide +kernel
theorem dX5_told_65 : decode cX5_told 65 = .ok (.getfield 10, 3) := by decide +kernel
theorem dX5_told_68 : decode cX5_told 68 = .ok (.getfield 61, 3) := by decide +kernel
theorem dX5_told_71 : decode cX5_told 71 = .ok (.ireturn, 1) := by decide +kernel
theorem dX5_told_72 : decode cX5_told 72 = .ok (.aload_n 0, 1) := by decide +kernel
theorem dX5_told_73 : decode cX5_told 73 = .ok (.getfield 10, 3) := by decide +kernel
theorem dX5_told_76 : decode cX5_told 76 = .ok (.invokevirtual 82, 3) := by decide +kernel
theorem dX5_told_79 : decode cX5_told 79 = .ok (.ireturn, 1) := by decide +kernel
theorem dX5_told_80 : decode cX5_told 80 = .ok (.aload_n 0, 1) := by decide +kernel
theorem dX5_told_81 : decode cX5_told 81 = .ok (.getfield 19, 3) := by decide +kernel
theorem dX5_told_84 : decode cX5_told 84 = .ok (.getfield 89, 3) := by decide +kernel
theorem dX5_told_87 : decode cX5_told 87 = .ok (.ireturn, 1) := by decide +kernel
theorem dX5_told_88 : decode cX5_told 88 = .ok (.aload_n 0, 1) := by decide +kernel
theorem dX5_told_89 : decode cX5_told 89 = .ok (.getfield 19, 3) := by decide +kernel
theorem dX5_told_92 : decode cX5_told 92 = .ok (.iconst 0, 1) := by decide +kernel
theorem dX5_told_93 : decode cX5_told 93 = .ok (.invokevirtual 278, 3) := by decide +kernel
theorem dX5_told_96 : decode cX5_told 96 = .ok (.ireturn, 1) := by decide +kernel
theorem dX5_told_97 : decode cX5_told 97 = .ok (.aload_n 0, 1) := by decide +kernel
theorem dX5_told_98 : decode cX5_told 98 = .ok (.getfield 19, 3) := by decide +kernel
theorem dX5_told_101 : decode cX5_told 101 = .ok (.iconst 1, 1) := by decide +kernel
theorem dX5_told_102 : decode cX5_told 102 = .ok (.invokevirtual 278, 3) := by decide +kernel
theorem dX5_told_105 : decode cX5_told 105 = .ok (.ireturn, 1) := by decide +kernel
theorem dX5_told_106 : decode cX5_told 106 = .ok (.aload_n 0, 1) := by decide +kernel
theorem dX5_told_107 : decode cX5_told 107 = .ok (.getfield 19, 3) := by decide +kernel
theorem dX5_told_110 : decode cX5_told 110 = .ok (.iconst 2, 1) := by decide +kernel
theorem dX5_told_111 : decode cX5_told 111 = .ok (.invokevirtual 278, 3) := by decide +kernel
theorem dX5_told_114 : decode cX5_told 114 = .ok (.ireturn, 1) := by decide +kernel
theorem dX5_told_115 : decode cX5_told 115 = .ok (.aload_n 0, 1) := by decide +kernel
theorem dX5_told_116 : decode cX5_told 116 = .ok (.getfield 38, 3) := by decide +kernel
theorem dX5_told_119 : decode cX5_told 119 = .ok (.ireturn, 1) := by decide +kernel
theorem dX5_told_120 : decode cX5_told 120 = .ok (.aload_n 0, 1) := by decide +kernel
theorem dX5_told_121 : decode cX5_told 121 = .ok (.invokevirtual 281, 3) := by decide +kernel
theorem dX5_told_124 : decode cX5_told 124 = .ok (.ireturn, 1) := by decide +kernel
theorem dX5_told_125 : decode cX5_told 125 = .ok (.aload_n 0, 1) := by decide +kernel
theorem dX5_told_126 : decode cX5_told 126 = .ok (.getfield 48, 3) := by decide +kernel
theorem dX5_told_129 : decode cX5_told 129 = .ok (.ireturn, 1) := by decide +kernel
theorem dX5_told_130 : decode cX5_told 130 = .ok (.aload_n 0, 1) := by decide +kernel
theorem dX5_told_131 : decode cX5_told 131 = .ok (.invokevirtual 284, 3) := by decide +kernel
theorem dX5_told_134 : decode cX5_told 134 = .ok (.ireturn, 1) := by decide +kernel
theorem dX5_told_135 : decode cX5_told 135 = .ok (.aload_n 0, 1) := by decide +kernel
theorem dX5_told_136 : decode cX5_told 136 = .ok (.getfield 58, 3) := by decide +kernel
theorem dX5_told_139 : decode cX5_told 139 = .ok (.ireturn, 1) := by decide +kernel
theorem dX5_told_140 : decode cX5_told 140 = .ok (.aload_n 0, 1) := by decide +kernel
theorem dX5_told_141 : decode cX5_told 141 = .ok (.getfield 55, 3) := by decide +kernel
theorem dX5_told_144 : decode cX5_told 144 = .ok (.ireturn, 1) := by decide +kernel
theorem dX5_told_145 : decode cX5_told 145 = .ok (.new 116, 3) := by decide +kernel
theorem dX5_told_148 : decode cX5_told 148 = .ok (.dup, 1) := by decide +kernel
theorem dX5_told_149 : decode cX5_told 149 = .ok (.ldc 118, 2) := by decide +kernel
theorem dX5_told_151 : decode cX5_told 151 = .ok (.invokespecial 120, 3) := by decide +kernel
theorem dX5_told_154 : decode cX5_told 154 = .ok (.athrow, 1) := by decide +kernel
theorem dX5_checkObject_0 : decode cX5_checkObject 0 = .ok (.iload_n 1, 1) := by decide +kernel
theorem dX5_checkObject_1 : decode cX5_checkObject 1 = .ok (.ifCond .lt 14, 3) := by decide +kernel
theorem dX5_checkObject_4 : decode cX5_checkObject 4 = .ok (.iload_n 1, 1) := by decide +kernel
theorem dX5_checkObject_5 : decode cX5_checkObject 5 = .ok (.aload_n 0, 1) := by decide +kernel
theorem dX5_checkObject_6 : decode cX5_checkObject 6 = .ok (.getfield 10, 3) := by decide +kernel
theorem dX5_checkObject_9 : decode cX5_checkObject 9 = .ok (.getfield 61, 3) := by decide +kernel
theorem dX5_checkObject_12 : decode cX5_checkObject 12 = .ok (.if_icmp .lt 14, 3) := by decide +kernel
theorem dX5_checkObject_15 : decode cX5_checkObject 15 = .ok (.new 116, 3) := by decide +kernel
theorem dX5_checkObject_18 : decode cX5_checkObject 18 = .ok (.dup, 1) := by decide +kernel
theorem dX5_checkObject_19 : decode cX5_checkObject 19 = .ok (.ldc_w 287, 3) := by decide +kernel
theorem dX5_checkObject_22 : decode cX5_checkObject 22 = .ok (.invokespecial 120, 3) := by decide +kernel
theorem dX5_checkObject_25 : decode cX5_checkObject 25 = .ok (.athrow, 1) := by decide +kernel
theorem dX5_checkObject_26 : decode cX5_checkObject 26 = .ok (.return_, 1) := by decide +kernel
theorem dX5_viewAt_0 : decode cX5_viewAt 0 = .ok (.iload_n 1, 1) := by decide +kernel
theorem dX5_viewAt_1 : decode cX5_viewAt 1 = .ok (.ifCond .lt 11, 3) := by decide +kernel
theorem dX5_viewAt_4 : decode cX5_viewAt 4 = .ok (.iload_n 1, 1) := by decide +kernel
theorem dX5_viewAt_5 : decode cX5_viewAt 5 = .ok (.aload_n 0, 1) := by decide +kernel
theorem dX5_viewAt_6 : decode cX5_viewAt 6 = .ok (.getfield 38, 3) := by decide +kernel
theorem dX5_viewAt_9 : decode cX5_viewAt 9 = .ok (.if_icmp .lt 7, 3) := by decide +kernel
theorem dX5_viewAt_12 : decode cX5_viewAt 12 = .ok (.aconst_null, 1) := by decide +kernel
theorem dX5_viewAt_13 : decode cX5_viewAt 13 = .ok (.goto 9, 3) := by decide +kernel
theorem dX5_viewAt_16 : decode cX5_viewAt 16 = .ok (.aload_n 0, 1) := by decide +kernel
theorem dX5_viewAt_17 : decode cX5_viewAt 17 = .ok (.getfield 34, 3) := by decide +kernel
theorem dX5_viewAt_20 : decode cX5_viewAt 20 = .ok (.iload_n 1, 1) := by decide +kernel
theorem dX5_viewAt_21 : decode cX5_viewAt 21 = .ok (.aaload, 1) := by decide +kernel
theorem dX5_viewAt_22 : decode cX5_viewAt 22 = .ok (.astore_n 2, 1) := by decide +kernel
theorem dX5_viewAt_23 : decode cX5_viewAt 23 = .ok (.aload_n 2, 1) := by decide +kernel
theorem dX5_viewAt_24 : decode cX5_viewAt 24 = .ok (.ifnonnull 14, 3) := by decide +kernel
theorem dX5_viewAt_27 : decode cX5_viewAt 27 = .ok (.new 116, 3) := by decide +kernel
theorem dX5_viewAt_30 : decode cX5_viewAt 30 = .ok (.dup, 1) := by decide +kernel
theorem dX5_viewAt_31 : decode cX5_viewAt 31 = .ok (.ldc_w 289, 3) := by decide +kernel
theorem dX5_viewAt_34 : decode cX5_viewAt 34 = .ok (.invokespecial 120, 3) := by decide +kernel
theorem dX5_viewAt_37 : decode cX5_viewAt 37 = .ok (.athrow, 1) := by decide +kernel
theorem dX5_viewAt_38 : decode cX5_viewAt 38 = .ok (.aload_n 2, 1) := by decide +kernel
theorem dX5_viewAt_39 : decode cX5_viewAt 39 = .ok (.areturn, 1) := by decide +kernel
theorem dX5_readerAt_0 : decode cX5_readerAt 0 = .ok (.iload_n 1, 1) := by decide +kernel
theorem dX5_readerAt_1 : decode cX5_readerAt 1 = .ok (.ifCond .lt 11, 3) := by decide +kernel
theorem dX5_readerAt_4 : decode cX5_readerAt 4 = .ok (.iload_n 1, 1) := by decide +kernel
theorem dX5_readerAt_5 : decode cX5_readerAt 5 = .ok (.aload_n 0, 1) := by decide +kernel
theorem dX5_readerAt_6 : decode cX5_readerAt 6 = .ok (.getfield 48, 3) := by decide +kernel
theorem dX5_readerAt_9 : decode cX5_readerAt 9 = .ok (.if_icmp .lt 7, 3) := by decide +kernel
theorem dX5_readerAt_12 : decode cX5_readerAt 12 = .ok (.aconst_null, 1) := by decide +kernel
theorem dX5_readerAt_13 : decode cX5_readerAt 13 = .ok (.goto 9, 3) := by decide +kernel
theorem dX5_readerAt_16 : decode cX5_readerAt 16 = .ok (.aload_n 0, 1) := by decide +kernel
theorem dX5_readerAt_17 : decode cX5_readerAt 17 = .ok (.getfield 44, 3) := by decide +kernel
theorem dX5_readerAt_20 : decode cX5_readerAt 20 = .ok (.iload_n 1, 1) := by decide +kernel
theorem dX5_readerAt_21 : decode cX5_readerAt 21 = .ok (.aaload, 1) := by decide +kernel
theorem dX5_readerAt_22 : decode cX5_readerAt 22 = .ok (.astore_n 2, 1) := by decide +kernel
theorem dX5_readerAt_23 : decode cX5_readerAt 23 = .ok (.aload_n 2, 1) := by decide +kernel
theorem dX5_readerAt_24 : decode cX5_readerAt 24 = .ok (.ifnonnull 14, 3) := by decide +kernel
theorem dX5_readerAt_27 : decode cX5_readerAt 27 = .ok (.new 116, 3) := by decide +kernel
theorem dX5_readerAt_30 : decode cX5_readerAt 30 = .ok (.dup, 1) := by decide +kernel
theorem dX5_readerAt_31 : decode cX5_readerAt 31 = .ok (.ldc_w 291, 3) := by decide +kernel
theorem dX5_readerAt_34 : decode cX5_readerAt 34 = .ok (.invokespecial 120, 3) := by decide +kernel
theorem dX5_readerAt_37 : decode cX5_readerAt 37 = .ok (.athrow, 1) := by decide +kernel
theorem dX5_readerAt_38 : decode cX5_readerAt 38 = .ok (.aload_n 2, 1) := by decide +kernel
theorem dX5_readerAt_39 : decode cX5_readerAt 39 = .ok (.areturn, 1) := by decide +kernel
theorem dX5_checkGroup_0 : decode cX5_checkGroup 0 = .ok (.iload_n 1, 1) := by decide +kernel
theorem dX5_checkGroup_1 : decode cX5_checkGroup 1 = .ok (.ifCond .lt 11, 3) := by decide +kernel
theorem dX5_checkGroup_4 : decode cX5_checkGroup 4 = .ok (.iload_n 1, 1) := by decide +kernel
theorem dX5_checkGroup_5 : decode cX5_checkGroup 5 = .ok (.aload_n 0, 1) := by decide +kernel
theorem dX5_checkGroup_6 : decode cX5_checkGroup 6 = .ok (.getfield 177, 3) := by decide +kernel
theorem dX5_checkGroup_9 : decode cX5_checkGroup 9 = .ok (.if_icmp .lt 14, 3) := by decide +kernel
theorem dX5_checkGroup_12 : decode cX5_checkGroup 12 = .ok (.new 116, 3) := by decide +kernel
theorem dX5_checkGroup_15 : decode cX5_checkGroup 15 = .ok (.dup, 1) := by decide +kernel
theorem dX5_checkGroup_16 : decode cX5_checkGroup 16 = .ok (.ldc_w 293, 3) := by decide +kernel
theorem dX5_checkGroup_19 : decode cX5_checkGroup 19 = .ok (.invokespecial 120, 3) := by decide +kernel
theorem dX5_checkGroup_22 : decode cX5_checkGroup 22 = .ok (.athrow, 1) := by decide +kernel
theorem dX5_checkGroup_23 : decode cX5_checkGroup 23 = .ok (.return_, 1) := by decide +kernel
theorem dX5_checkKind_0 : decode cX5_checkKind 0 = .ok (.iload_n 0, 1) := by decide +kernel
theorem dX5_checkKind_1 : decode cX5_checkKind 1 = .ok (.ifCond .eq 24, 3) := by decide +kernel
theorem dX5_checkKind_4 : decode cX5_checkKind 4 = .ok (.iload_n 0, 1) := by decide +kernel
theorem dX5_checkKind_5 : decode cX5_checkKind 5 = .ok (.iconst 1, 1) := by decide +kernel
theorem dX5_checkKind_6 : decode cX5_checkKind 6 = .ok (.if_icmp .eq 19, 3) := by decide +kernel
theorem dX5_checkKind_9 : decode cX5_checkKind 9 = .ok (.iload_n 0, 1) := by decide +kernel
theorem dX5_checkKind_10 : decode cX5_checkKind 10 = .ok (.iconst 2, 1) := by decide +kernel
theorem dX5_checkKind_11 : decode cX5_checkKind 11 = .ok (.if_icmp .eq 14, 3) := by decide +kernel
theorem dX5_checkKind_14 : decode cX5_checkKind 14 = .ok (.new 226, 3) := by decide +kernel
theorem dX5_checkKind_17 : decode cX5_checkKind 17 = .ok (.dup, 1) := by decide +kernel
theorem dX5_checkKind_18 : decode cX5_checkKind 18 = .ok (.ldc_w 295, 3) := by decide +kernel
theorem dX5_checkKind_21 : decode cX5_checkKind 21 = .ok (.invokespecial 230, 3) := by decide +kernel
theorem dX5_checkKind_24 : decode cX5_checkKind 24 = .ok (.athrow, 1) := by decide +kernel
theorem dX5_checkKind_25 : decode cX5_checkKind 25 = .ok (.return_, 1) := by decide +kernel
theorem dX5_checkSlice_0 : decode cX5_checkSlice 0 = .ok (.iload_n 0, 1) := by decide +kernel
theorem dX5_checkSlice_1 : decode cX5_checkSlice 1 = .ok (.iconst 1, 1) := by decide +kernel
theorem dX5_checkSlice_2 : decode cX5_checkSlice 2 = .ok (.if_icmp .lt 9, 3) := by decide +kernel
theorem dX5_checkSlice_5 : decode cX5_checkSlice 5 = .ok (.iload_n 0, 1) := by decide +kernel
theorem dX5_checkSlice_6 : decode cX5_checkSlice 6 = .ok (.bipush 8, 2) := by decide +kernel
theorem dX5_checkSlice_8 : decode cX5_checkSlice 8 = .ok (.if_icmp .le 14, 3) := by decide +kernel
theorem dX5_checkSlice_11 : decode cX5_checkSlice 11 = .ok (.new 226, 3) := by decide +kernel
theorem dX5_checkSlice_14 : decode cX5_checkSlice 14 = .ok (.dup, 1) := by decide +kernel
theorem dX5_checkSlice_15 : decode cX5_checkSlice 15 = .ok (.ldc_w 297, 3) := by decide +kernel
theorem dX5_checkSlice_18 : decode cX5_checkSlice 18 = .ok (.invokespecial 230, 3) := by decide +kernel
theorem dX5_checkSlice_21 : decode cX5_checkSlice 21 = .ok (.athrow, 1) := by decide +kernel
theorem dX5_checkSlice_22 : decode cX5_checkSlice 22 = .ok (.iload_n 1, 1) := by decide +kernel
theorem dX5_checkSlice_23 : decode cX5_checkSlice 23 = .ok (.ifCond .lt 8, 3) := by decide +kernel
theorem dX5_checkSlice_26 : decode cX5_checkSlice 26 = .ok (.iload_n 1, 1) := by decide +kernel
theorem dX5_checkSlice_27 : decode cX5_checkSlice 27 = .ok (.iload_n 0, 1) := by decide +kernel
theorem dX5_checkSlice_28 : decode cX5_checkSlice 28 = .ok (.if_icmp .lt 14, 3) := by decide +kernel
theorem dX5_checkSlice_31 : decode cX5_checkSlice 31 = .ok (.new 226, 3) := by decide +kernel
theorem dX5_checkSlice_34 : decode cX5_checkSlice 34 = .ok (.dup, 1) := by decide +kernel
theorem dX5_checkSlice_35 : decode cX5_checkSlice 35 = .ok (.ldc_w 299, 3) := by decide +kernel
theorem dX5_checkSlice_38 : decode cX5_checkSlice 38 = .ok (.invokespecial 230, 3) := by decide +kernel
theorem dX5_checkSlice_41 : decode cX5_checkSlice 41 = .ok (.athrow, 1) := by decide +kernel
theorem dX5_checkSlice_42 : decode cX5_checkSlice 42 = .ok (.return_, 1) := by decide +kernel
theorem dX5_checkKeep_0 : decode cX5_checkKeep 0 = .ok (.iload_n 0, 1) := by decide +kernel
theorem dX5_checkKeep_1 : decode cX5_checkKeep 1 = .ok (.iconst 1, 1) := by decide +kernel
theorem dX5_checkKeep_2 : decode cX5_checkKeep 2 = .ok (.if_icmp .lt 10, 3) := by decide +kernel
theorem dX5_checkKeep_5 : decode cX5_checkKeep 5 = .ok (.iload_n 0, 1) := by decide +kernel
theorem dX5_checkKeep_6 : decode cX5_checkKeep 6 = .ok (.sipush 1000, 3) := by decide +kernel
theorem dX5_checkKeep_9 : decode cX5_checkKeep 9 = .ok (.if_icmp .le 14, 3) := by decide +kernel
theorem dX5_checkKeep_12 : decode cX5_checkKeep 12 = .ok (.new 226, 3) := by decide +kernel
theorem dX5_checkKeep_15 : decode cX5_checkKeep 15 = .ok (.dup, 1) := by decide +kernel
theorem dX5_checkKeep_16 : decode cX5_checkKeep 16 = .ok (.ldc_w 301, 3) := by decide +kernel
theorem dX5_checkKeep_19 : decode cX5_checkKeep 19 = .ok (.invokespecial 230, 3) := by decide +kernel
theorem dX5_checkKeep_22 : decode cX5_checkKeep 22 = .ok (.athrow, 1) := by decide +kernel
theorem dX5_checkKeep_23 : decode cX5_checkKeep 23 = .ok (.return_, 1) := by decide +kernel
theorem dX5_checkOpen_0 : decode cX5_checkOpen 0 = .ok (.aload_n 0, 1) := by decide +kernel
theorem dX5_checkOpen_1 : decode cX5_checkOpen 1 = .ok (.getfield 157, 3) := by decide +kernel
theorem dX5_checkOpen_4 : decode cX5_checkOpen 4 = .ok (.ifCond .eq 14, 3) := by decide +kernel
theorem dX5_checkOpen_7 : decode cX5_checkOpen 7 = .ok (.new 303, 3) := by decide +kernel
theorem dX5_checkOpen_10 : decode cX5_checkOpen 10 = .ok (.dup, 1) := by decide +kernel
theorem dX5_checkOpen_11 : decode cX5_checkOpen 11 = .ok (.ldc_w 305, 3) := by decide +kernel
theorem dX5_checkOpen_14 : decode cX5_checkOpen 14 = .ok (.invokespecial 307, 3) := by decide +kernel
theorem dX5_checkOpen_17 : decode cX5_checkOpen 17 = .ok (.athrow, 1) := by decide +kernel
theorem dX5_checkOpen_18 : decode cX5_checkOpen 18 = .ok (.return_, 1) := by decide +kernel
set_option maxRecDepth 20000 in
theorem ggX5_moveFromBelow_X3_stands : GoodIn wsX5_moveFromBelow wsX3_stands := goodIn_r _ [9, 10, 11, 28, 29, 30, 31, 32, 33, 34, 35] (by decide +kernel) (by decide +kernel)
set_option maxRecDepth 20000 in
theorem gX5_moveFromBelow_X3_stands : GoodIn wsX5_moveFromBelow (wsV RX5 308 RX3 yX3_stands wsX3_stands) := goodIn_app (goodIn_of _ (by decide +kernel)) ggX5_moveFromBelow_X3_stands
set_option maxRecDepth 20000 in
theorem ggX5_moveFromBelow_X2_isBelow : GoodIn wsX5_moveFromBelow wsX2_isBelow := goodIn_r _ [16, 17, 36, 37, 38] (by decide +kernel) (by decide +kernel)
set_option maxRecDepth 20000 in
theorem gX5_moveFromBelow_X2_isBelow : GoodIn wsX5_moveFromBelow (wsV RX5 312 RX2 yX2_isBelow wsX2_isBelow) := goodIn_app (goodIn_of _ (by decide +kernel)) ggX5_moveFromBelow_X2_isBelow
theorem dX5_moveFromBelow_0 : decode cX5_moveFromBelow 0 = .ok (.iconst 0, 1) := by decide +kernel
theorem dX5_moveFromBelow_1 : decode cX5_moveFromBelow 1 = .ok (.istore_n 3, 1) := by decide +kernel
theorem dX5_moveFromBelow_2 : decode cX5_moveFromBelow 2 = .ok (.iconst 0, 1) := by decide +kernel
theorem dX5_moveFromBelow_3 : decode cX5_moveFromBelow 3 = .ok (.istore 4, 2) := by decide +kernel
theorem dX5_moveFromBelow_5 : decode cX5_moveFromBelow 5 = .ok (.iload 4, 2) := by decide +kernel
theorem dX5_moveFromBelow_7 : decode cX5_moveFromBelow 7 = .ok (.aload_n 0, 1) := by decide +kernel
theorem dX5_moveFromBelow_8 : decode cX5_moveFromBelow 8 = .ok (.getfield 10, 3) := by decide +kernel
theorem dX5_moveFromBelow_11 : decode cX5_moveFromBelow 11 = .ok (.getfield 61, 3) := by decide +kernel
theorem dX5_moveFromBelow_14 : decode cX5_moveFromBelow 14 = .ok (.if_icmp .ge 56, 3) := by decide +kernel
theorem dX5_moveFromBelow_17 : decode cX5_moveFromBelow 17 = .ok (.aload_n 0, 1) := by decide +kernel
theorem dX5_moveFromBelow_18 : decode cX5_moveFromBelow 18 = .ok (.getfield 10, 3) := by decide +kernel
theorem dX5_moveFromBelow_21 : decode cX5_moveFromBelow 21 = .ok (.iload 4, 2) := by decide +kernel
theorem dX5_moveFromBelow_23 : decode cX5_moveFromBelow 23 = .ok (.invokevirtual 308, 3) := by decide +kernel
theorem dX5_moveFromBelow_26 : decode cX5_moveFromBelow 26 = .ok (.ifCond .eq 38, 3) := by decide +kernel
theorem dX5_moveFromBelow_29 : decode cX5_moveFromBelow 29 = .ok (.aload_n 0, 1) := by decide +kernel
theorem dX5_moveFromBelow_30 : decode cX5_moveFromBelow 30 = .ok (.getfield 19, 3) := by decide +kernel
theorem dX5_moveFromBelow_33 : decode cX5_moveFromBelow 33 = .ok (.aload_n 0, 1) := by decide +kernel
theorem dX5_moveFromBelow_34 : decode cX5_moveFromBelow 34 = .ok (.getfield 10, 3) := by decide +kernel
theorem dX5_moveFromBelow_37 : decode cX5_moveFromBelow 37 = .ok (.getfield 76, 3) := by decide +kernel
theorem dX5_moveFromBelow_40 : decode cX5_moveFromBelow 40 = .ok (.iload 4, 2) := by decide +kernel
theorem dX5_moveFromBelow_42 : decode cX5_moveFromBelow 42 = .ok (.iaload, 1) := by decide +kernel
theorem dX5_moveFromBelow_43 : decode cX5_moveFromBelow 43 = .ok (.iload_n 1, 1) := by decide +kernel
theorem dX5_moveFromBelow_44 : decode cX5_moveFromBelow 44 = .ok (.invokevirtual 312, 3) := by decide +kernel
theorem dX5_moveFromBelow_47 : decode cX5_moveFromBelow 47 = .ok (.ifCond .eq 17, 3) := by decide +kernel
theorem dX5_moveFromBelow_50 : decode cX5_moveFromBelow 50 = .ok (.aload_n 0, 1) := by decide +kernel
theorem dX5_moveFromBelow_51 : decode cX5_moveFromBelow 51 = .ok (.getfield 10, 3) := by decide +kernel
theorem dX5_moveFromBelow_54 : decode cX5_moveFromBelow 54 = .ok (.getfield 76, 3) := by decide +kernel
theorem dX5_moveFromBelow_57 : decode cX5_moveFromBelow 57 = .ok (.iload 4, 2) := by decide +kernel
theorem dX5_moveFromBelow_59 : decode cX5_moveFromBelow 59 = .ok (.iload_n 2, 1) := by decide +kernel
theorem dX5_moveFromBelow_60 : decode cX5_moveFromBelow 60 = .ok (.iastore, 1) := by decide +kernel
theorem dX5_moveFromBelow_61 : decode cX5_moveFromBelow 61 = .ok (.iinc 3 1, 3) := by decide +kernel
theorem dX5_moveFromBelow_64 : decode cX5_moveFromBelow 64 = .ok (.iinc 4 1, 3) := by decide +kernel
theorem dX5_moveFromBelow_67 : decode cX5_moveFromBelow 67 = .ok (.goto (-62), 3) := by decide +kernel
theorem dX5_moveFromBelow_70 : decode cX5_moveFromBelow 70 = .ok (.iload_n 3, 1) := by decide +kernel
theorem dX5_moveFromBelow_71 : decode cX5_moveFromBelow 71 = .ok (.ireturn, 1) := by decide +kernel
set_option maxRecDepth 20000 in
theorem ggX5_rankHits_X5_checkKind : GoodIn wsX5_rankHits wsX5_checkKind := goodIn_ca (goodIn_r _ [7, 8, 9] (by decide +kernel) (by decide +kernel)) (goodIn_sub (fun _ h => List.mem_cons_of_mem _ (List.mem_append_right _ h)) (by decide +kernel))
set_option maxRecDepth 20000 in
theorem gX5_rankHits_X5_checkKind : GoodIn wsX5_rankHits (va_wsS RX5 185 yX5_checkKind wsX5_checkKind) := goodIn_app (goodIn_of _ (by decide +kernel)) ggX5_rankHits_X5_checkKind
set_option maxRecDepth 20000 in
theorem ggX5_rankHits_X0_load : GoodIn wsX5_rankHits wsX0_load := goodIn_r _ [14, 15, 16, 17, 18, 19, 20, 21, 22, 23, 24, 70, 71, 72, 73, 74, 75, 76] (by decide +kernel) (by decide +kernel)
set_option maxRecDepth 20000 in
theorem gX5_rankHits_X0_load : GoodIn wsX5_rankHits (wsV RX5 135 RX0 yX0_load wsX0_load) := goodIn_app (goodIn_of _ (by decide +kernel)) ggX5_rankHits_X0_load
set_option maxRecDepth 20000 in
theorem ggX5_rankHits_X0_arrange : GoodIn wsX5_rankHits wsX0_arrange := goodIn_r _ [28, 19, 29, 20, 15, 16, 17, 18, 30, 31, 32, 33, 13, 34, 35, 36, 37, 38, 39, 40, 41, 42, 43, 44, 45, 46, 47, 48, 49, 50, 51, 52, 53, 70, 71, 72, 73, 74, 75, 76, 77, 78, 79, 80, 81, 82, 83, 84] (by decide +kernel) (by decide +kernel)
set_option maxRecDepth 20000 in
theorem gX5_rankHits_X0_arrange : GoodIn wsX5_rankHits (wsV RX5 319 RX0 yX0_arrange wsX0_arrange) := goodIn_app (goodIn_of _ (by decide +kernel)) ggX5_rankHits_X0_arrange
theorem dX5_rankHits_0 : decode cX5_rankHits 0 = .ok (.iload_n 2, 1) := by decide +kernel
theorem dX5_rankHits_1 : decode cX5_rankHits 1 = .ok (.invokestatic 185, 3) := by decide +kernel
theorem dX5_rankHits_4 : decode cX5_rankHits 4 = .ok (.aload_n 0, 1) := by decide +kernel
theorem dX5_rankHits_5 : decode cX5_rankHits 5 = .ok (.getfield 28, 3) := by decide +kernel
theorem dX5_rankHits_8 : decode cX5_rankHits 8 = .ok (.aload_n 1, 1) := by decide +kernel
theorem dX5_rankHits_9 : decode cX5_rankHits 9 = .ok (.getfield 316, 3) := by decide +kernel
theorem dX5_rankHits_12 : decode cX5_rankHits 12 = .ok (.aload_n 1, 1) := by decide +kernel
theorem dX5_rankHits_13 : decode cX5_rankHits 13 = .ok (.getfield 164, 3) := by decide +kernel
theorem dX5_rankHits_16 : decode cX5_rankHits 16 = .ok (.invokevirtual 135, 3) := by decide +kernel
theorem dX5_rankHits_19 : decode cX5_rankHits 19 = .ok (.aload_n 0, 1) := by decide +kernel
theorem dX5_rankHits_20 : decode cX5_rankHits 20 = .ok (.getfield 28, 3) := by decide +kernel
theorem dX5_rankHits_23 : decode cX5_rankHits 23 = .ok (.iload_n 2, 1) := by decide +kernel
theorem dX5_rankHits_24 : decode cX5_rankHits 24 = .ok (.lload_n 3, 1) := by decide +kernel
theorem dX5_rankHits_25 : decode cX5_rankHits 25 = .ok (.invokevirtual 319, 3) := by decide +kernel
theorem dX5_rankHits_28 : decode cX5_rankHits 28 = .ok (.return_, 1) := by decide +kernel
set_option maxRecDepth 20000 in
theorem ggX5_rankGroup_X5_checkGroup : GoodIn wsX5_rankGroup wsX5_checkGroup := goodIn_ca (goodIn_r _ [5, 6, 7, 8, 85, 86, 87, 88, 89, 90] (by decide +kernel) (by decide +kernel)) (goodIn_sub (fun _ h => List.mem_cons_of_mem _ (List.mem_append_left _ (List.mem_append_right _ h))) (by decide +kernel))
set_option maxRecDepth 20000 in
theorem gX5_rankGroup_X5_checkGroup : GoodIn wsX5_rankGroup (va_wsS RX5 211 yX5_checkGroup wsX5_checkGroup) := goodIn_app (goodIn_of _ (by decide +kernel)) ggX5_rankGroup_X5_checkGroup
set_option maxRecDepth 20000 in
theorem ggX5_rankGroup_X5_rankHits : GoodIn wsX5_rankGroup wsX5_rankHits := goodIn_ca (goodIn_r _ [12, 1, 13, 14, 15, 16, 4, 17, 18, 19, 20, 21, 22, 23, 24, 25, 26, 27, 28, 29, 30, 31, 32, 33, 34, 35, 36, 37, 38, 39, 40, 41, 42, 43, 44, 45, 46, 47, 48, 49, 50, 51, 52, 53, 54, 55, 56, 57, 58, 59, 60, 61, 62, 63, 75, 76, 77, 78, 79, 80, 81, 82, 83, 84, 85, 86, 87, 88, 89, 90, 91, 92, 93, 94, 95, 96, 97, 98, 99, 100, 101, 102, 103, 104, 105] (by decide +kernel) (by decide +kernel)) (goodIn_sub (fun _ h => List.mem_cons_of_mem _ (List.mem_append_right _ h)) (by decide +kernel))
set_option maxRecDepth 20000 in
theorem gX5_rankGroup_X5_rankHits : GoodIn wsX5_rankGroup (wsV RX5 167 RX5 yX5_rankHits wsX5_rankHits) := goodIn_app (goodIn_of _ (by decide +kernel)) ggX5_rankGroup_X5_rankHits
set_option maxRecDepth 20000 in
theorem ggX5_rankGroup_X0_narrowToGroup : GoodIn wsX5_rankGroup wsX0_narrowToGroup := goodIn_r _ [67, 68, 29, 45, 69, 30, 70, 71, 72, 23, 73, 74, 91, 92, 93, 94, 95, 96, 97, 98, 99, 100, 101, 102, 103, 104, 105] (by decide +kernel) (by decide +kernel)
set_option maxRecDepth 20000 in
theorem gX5_rankGroup_X0_narrowToGroup : GoodIn wsX5_rankGroup (wsV RX5 215 RX0 yX0_narrowToGroup wsX0_narrowToGroup) := goodIn_app (goodIn_of _ (by decide +kernel)) ggX5_rankGroup_X0_narrowToGroup
theorem dX5_rankGroup_0 : decode cX5_rankGroup 0 = .ok (.aload_n 1, 1) := by decide +kernel
theorem dX5_rankGroup_1 : decode cX5_rankGroup 1 = .ok (.iload 5, 2) := by decide +kernel
theorem dX5_rankGroup_3 : decode cX5_rankGroup 3 = .ok (.invokestatic 211, 3) := by decide +kernel
theorem dX5_rankGroup_6 : decode cX5_rankGroup 6 = .ok (.aload_n 0, 1) := by decide +kernel
theorem dX5_rankGroup_7 : decode cX5_rankGroup 7 = .ok (.aload_n 1, 1) := by decide +kernel
theorem dX5_rankGroup_8 : decode cX5_rankGroup 8 = .ok (.iload_n 2, 1) := by decide +kernel
theorem dX5_rankGroup_9 : decode cX5_rankGroup 9 = .ok (.lload_n 3, 1) := by decide +kernel
theorem dX5_rankGroup_10 : decode cX5_rankGroup 10 = .ok (.invokevirtual 167, 3) := by decide +kernel
theorem dX5_rankGroup_13 : decode cX5_rankGroup 13 = .ok (.aload_n 0, 1) := by decide +kernel
theorem dX5_rankGroup_14 : decode cX5_rankGroup 14 = .ok (.getfield 28, 3) := by decide +kernel
theorem dX5_rankGroup_17 : decode cX5_rankGroup 17 = .ok (.iload 5, 2) := by decide +kernel
theorem dX5_rankGroup_19 : decode cX5_rankGroup 19 = .ok (.invokevirtual 215, 3) := by decide +kernel
theorem dX5_rankGroup_22 : decode cX5_rankGroup 22 = .ok (.return_, 1) := by decide +kernel
theorem dX5_openReader_0 : decode cX5_openReader 0 = .ok (.aload_n 0, 1) := by decide +kernel
theorem dX5_openReader_1 : decode cX5_openReader 1 = .ok (.getfield 44, 3) := by decide +kernel
theorem dX5_openReader_4 : decode cX5_openReader 4 = .ok (.aload_n 0, 1) := by decide +kernel
theorem dX5_openReader_5 : decode cX5_openReader 5 = .ok (.getfield 48, 3) := by decide +kernel
theorem dX5_openReader_8 : decode cX5_openReader 8 = .ok (.aload_n 1, 1) := by decide +kernel
theorem dX5_openReader_9 : decode cX5_openReader 9 = .ok (.aastore, 1) := by decide +kernel
theorem dX5_openReader_10 : decode cX5_openReader 10 = .ok (.aload_n 0, 1) := by decide +kernel
theorem dX5_openReader_11 : decode cX5_openReader 11 = .ok (.dup, 1) := by decide +kernel
theorem dX5_openReader_12 : decode cX5_openReader 12 = .ok (.getfield 48, 3) := by decide +kernel
theorem dX5_openReader_15 : decode cX5_openReader 15 = .ok (.iconst 1, 1) := by decide +kernel
theorem dX5_openReader_16 : decode cX5_openReader 16 = .ok (.iadd, 1) := by decide +kernel
theorem dX5_openReader_17 : decode cX5_openReader 17 = .ok (.putfield 48, 3) := by decide +kernel
theorem dX5_openReader_20 : decode cX5_openReader 20 = .ok (.aload_n 1, 1) := by decide +kernel
theorem dX5_openReader_21 : decode cX5_openReader 21 = .ok (.getfield 323, 3) := by decide +kernel
theorem dX5_openReader_24 : decode cX5_openReader 24 = .ok (.dup, 1) := by decide +kernel
theorem dX5_openReader_25 : decode cX5_openReader 25 = .ok (.getfield 327, 3) := by decide +kernel
theorem dX5_openReader_28 : decode cX5_openReader 28 = .ok (.iconst 1, 1) := by decide +kernel
theorem dX5_openReader_29 : decode cX5_openReader 29 = .ok (.iadd, 1) := by decide +kernel
theorem dX5_openReader_30 : decode cX5_openReader 30 = .ok (.putfield 327, 3) := by decide +kernel
theorem dX5_openReader_33 : decode cX5_openReader 33 = .ok (.aload_n 0, 1) := by decide +kernel
theorem dX5_openReader_34 : decode cX5_openReader 34 = .ok (.getfield 48, 3) := by decide +kernel
theorem dX5_openReader_37 : decode cX5_openReader 37 = .ok (.iconst 1, 1) := by decide +kernel
theorem dX5_openReader_38 : decode cX5_openReader 38 = .ok (.isub, 1) := by decide +kernel
theorem dX5_openReader_39 : decode cX5_openReader 39 = .ok (.ireturn, 1) := by decide +kernel
set_option maxRecDepth 20000 in
theorem ggX5_endIfAllGiven_X1_countLeft : GoodIn wsX5_endIfAllGiven wsX1_countLeft := goodIn_r _ [5, 6, 7, 36, 37, 38, 39, 40, 41, 42] (by decide +kernel) (by decide +kernel)
set_option maxRecDepth 20000 in
theorem gX5_endIfAllGiven_X1_countLeft : GoodIn wsX5_endIfAllGiven (wsV RX5 240 RX1 yX1_countLeft wsX1_countLeft) := goodIn_app (goodIn_of _ (by decide +kernel)) ggX5_endIfAllGiven_X1_countLeft
set_option maxRecDepth 20000 in
theorem ggX5_endIfAllGiven_X5_endReader : GoodIn wsX5_endIfAllGiven wsX5_endReader := goodIn_r _ [12, 13, 14, 15, 16, 17, 18, 11, 19, 20, 21, 22, 23, 24, 25, 26, 27, 28, 29, 30, 31, 32, 33, 34, 35, 36, 37, 38, 39, 40, 41, 42, 43, 44, 45, 46, 47, 48, 49, 50, 51, 52, 53, 54, 55, 56, 57, 58, 59, 60, 61] (by decide +kernel) (by decide +kernel)
set_option maxRecDepth 20000 in
theorem gX5_endIfAllGiven_X5_endReader : GoodIn wsX5_endIfAllGiven (wsV RX5 272 RX5 yX5_endReader wsX5_endReader) := goodIn_app (goodIn_of _ (by decide +kernel)) ggX5_endIfAllGiven_X5_endReader
theorem dX5_endIfAllGiven_0 : decode cX5_endIfAllGiven 0 = .ok (.aload_n 1, 1) := by decide +kernel
theorem dX5_endIfAllGiven_1 : decode cX5_endIfAllGiven 1 = .ok (.invokevirtual 240, 3) := by decide +kernel
theorem dX5_endIfAllGiven_4 : decode cX5_endIfAllGiven 4 = .ok (.ifCond .ne 9, 3) := by decide +kernel
theorem dX5_endIfAllGiven_7 : decode cX5_endIfAllGiven 7 = .ok (.aload_n 0, 1) := by decide +kernel
theorem dX5_endIfAllGiven_8 : decode cX5_endIfAllGiven 8 = .ok (.aload_n 1, 1) := by decide +kernel
theorem dX5_endIfAllGiven_9 : decode cX5_endIfAllGiven 9 = .ok (.invokevirtual 272, 3) := by decide +kernel
theorem dX5_endIfAllGiven_12 : decode cX5_endIfAllGiven 12 = .ok (.pop, 1) := by decide +kernel
theorem dX5_endIfAllGiven_13 : decode cX5_endIfAllGiven 13 = .ok (.return_, 1) := by decide +kernel
set_option maxRecDepth 20000 in
theorem ggX5_endReader_X5_endIfIdle : GoodIn wsX5_endReader wsX5_endIfIdle := goodIn_r _ [8, 9, 3, 10, 11, 12, 13, 14, 15, 16, 17, 18, 19, 20, 21, 22, 23, 24, 32, 33, 34, 35, 36, 37, 38, 39, 40, 41, 42, 43, 44, 45, 46, 47, 48, 49, 50] (by decide +kernel) (by decide +kernel)
set_option maxRecDepth 20000 in
theorem gX5_endReader_X5_endIfIdle : GoodIn wsX5_endReader (wsV RX5 160 RX5 yX5_endIfIdle wsX5_endIfIdle) := goodIn_app (goodIn_of _ (by decide +kernel)) ggX5_endReader_X5_endIfIdle
theorem dX5_endReader_0 : decode cX5_endReader 0 = .ok (.aload_n 1, 1) := by decide +kernel
theorem dX5_endReader_1 : decode cX5_endReader 1 = .ok (.getfield 237, 3) := by decide +kernel
theorem dX5_endReader_4 : decode cX5_endReader 4 = .ok (.ifCond .eq 5, 3) := by decide +kernel
theorem dX5_endReader_7 : decode cX5_endReader 7 = .ok (.iconst 0, 1) := by decide +kernel
theorem dX5_endReader_8 : decode cX5_endReader 8 = .ok (.ireturn, 1) := by decide +kernel
theorem dX5_endReader_9 : decode cX5_endReader 9 = .ok (.aload_n 1, 1) := by decide +kernel
theorem dX5_endReader_10 : decode cX5_endReader 10 = .ok (.iconst 1, 1) := by decide +kernel
theorem dX5_endReader_11 : decode cX5_endReader 11 = .ok (.putfield 237, 3) := by decide +kernel
theorem dX5_endReader_14 : decode cX5_endReader 14 = .ok (.aload_n 1, 1) := by decide +kernel
theorem dX5_endReader_15 : decode cX5_endReader 15 = .ok (.getfield 323, 3) := by decide +kernel
theorem dX5_endReader_18 : decode cX5_endReader 18 = .ok (.dup, 1) := by decide +kernel
theorem dX5_endReader_19 : decode cX5_endReader 19 = .ok (.getfield 327, 3) := by decide +kernel
theorem dX5_endReader_22 : decode cX5_endReader 22 = .ok (.iconst 1, 1) := by decide +kernel
theorem dX5_endReader_23 : decode cX5_endReader 23 = .ok (.isub, 1) := by decide +kernel
theorem dX5_endReader_24 : decode cX5_endReader 24 = .ok (.putfield 327, 3) := by decide +kernel
theorem dX5_endReader_27 : decode cX5_endReader 27 = .ok (.aload_n 0, 1) := by decide +kernel
theorem dX5_endReader_28 : decode cX5_endReader 28 = .ok (.aload_n 1, 1) := by decide +kernel
theorem dX5_endReader_29 : decode cX5_endReader 29 = .ok (.getfield 323, 3) := by decide +kernel
theorem dX5_endReader_32 : decode cX5_endReader 32 = .ok (.invokevirtual 160, 3) := by decide +kernel
theorem dX5_endReader_35 : decode cX5_endReader 35 = .ok (.ireturn, 1) := by decide +kernel
set_option maxRecDepth 20000 in
theorem ggX5_endIfIdle_X2_unsee : GoodIn wsX5_endIfIdle wsX2_unsee := goodIn_r _ [11, 12, 13, 14, 15, 10, 16, 17, 34, 35, 36] (by decide +kernel) (by decide +kernel)
set_option maxRecDepth 20000 in
theorem gX5_endIfIdle_X2_unsee : GoodIn wsX5_endIfIdle (wsV RX5 333 RX2 yX2_unsee wsX2_unsee) := goodIn_app (goodIn_of _ (by decide +kernel)) ggX5_endIfIdle_X2_unsee
theorem dX5_endIfIdle_0 : decode cX5_endIfIdle 0 = .ok (.aload_n 1, 1) := by decide +kernel
theorem dX5_endIfIdle_1 : decode cX5_endIfIdle 1 = .ok (.getfield 157, 3) := by decide +kernel
theorem dX5_endIfIdle_4 : decode cX5_endIfIdle 4 = .ok (.iconst 1, 1) := by decide +kernel
theorem dX5_endIfIdle_5 : decode cX5_endIfIdle 5 = .ok (.if_icmp .ne 10, 3) := by decide +kernel
theorem dX5_endIfIdle_8 : decode cX5_endIfIdle 8 = .ok (.aload_n 1, 1) := by decide +kernel
theorem dX5_endIfIdle_9 : decode cX5_endIfIdle 9 = .ok (.getfield 327, 3) := by decide +kernel
theorem dX5_endIfIdle_12 : decode cX5_endIfIdle 12 = .ok (.ifCond .le 5, 3) := by decide +kernel
theorem dX5_endIfIdle_15 : decode cX5_endIfIdle 15 = .ok (.iconst 0, 1) := by decide +kernel
theorem dX5_endIfIdle_16 : decode cX5_endIfIdle 16 = .ok (.ireturn, 1) := by decide +kernel
theorem dX5_endIfIdle_17 : decode cX5_endIfIdle 17 = .ok (.aload_n 1, 1) := by decide +kernel
theorem dX5_endIfIdle_18 : decode cX5_endIfIdle 18 = .ok (.iconst 2, 1) := by decide +kernel
theorem dX5_endIfIdle_19 : decode cX5_endIfIdle 19 = .ok (.putfield 157, 3) := by decide +kernel
theorem dX5_endIfIdle_22 : decode cX5_endIfIdle 22 = .ok (.aload_n 1, 1) := by decide +kernel
theorem dX5_endIfIdle_23 : decode cX5_endIfIdle 23 = .ok (.iconst 0, 1) := by decide +kernel
theorem dX5_endIfIdle_24 : decode cX5_endIfIdle 24 = .ok (.putfield 164, 3) := by decide +kernel
theorem dX5_endIfIdle_27 : decode cX5_endIfIdle 27 = .ok (.aload_n 1, 1) := by decide +kernel
theorem dX5_endIfIdle_28 : decode cX5_endIfIdle 28 = .ok (.iconst 0, 1) := by decide +kernel
theorem dX5_endIfIdle_29 : decode cX5_endIfIdle 29 = .ok (.putfield 177, 3) := by decide +kernel
theorem dX5_endIfIdle_32 : decode cX5_endIfIdle 32 = .ok (.aload_n 0, 1) := by decide +kernel
theorem dX5_endIfIdle_33 : decode cX5_endIfIdle 33 = .ok (.getfield 19, 3) := by decide +kernel
theorem dX5_endIfIdle_36 : decode cX5_endIfIdle 36 = .ok (.aload_n 1, 1) := by decide +kernel
theorem dX5_endIfIdle_37 : decode cX5_endIfIdle 37 = .ok (.getfield 330, 3) := by decide +kernel
theorem dX5_endIfIdle_40 : decode cX5_endIfIdle 40 = .ok (.invokevirtual 333, 3) := by decide +kernel
theorem dX5_endIfIdle_43 : decode cX5_endIfIdle 43 = .ok (.ireturn, 1) := by decide +kernel
set_option maxRecDepth 20000 in
theorem ggX5_countViewsGoingOn_X5_viewAt : GoodIn wsX5_countViewsGoingOn wsX5_viewAt := goodIn_ca (goodIn_r _ [7, 8, 9, 1, 10, 11, 12, 13, 14, 15, 16, 17, 18, 19, 20] (by decide +kernel) (by decide +kernel)) (goodIn_sub (fun _ h => List.mem_cons_of_mem _ (List.mem_append_right _ h)) (by decide +kernel))
set_option maxRecDepth 20000 in
theorem gX5_countViewsGoingOn_X5_viewAt : GoodIn wsX5_countViewsGoingOn (wsV RX5 149 RX5 yX5_viewAt wsX5_viewAt) := goodIn_app (goodIn_of _ (by decide +kernel)) ggX5_countViewsGoingOn_X5_viewAt
theorem dX5_countViewsGoingOn_0 : decode cX5_countViewsGoingOn 0 = .ok (.iconst 0, 1) := by decide +kernel
theorem dX5_countViewsGoingOn_1 : decode cX5_countViewsGoingOn 1 = .ok (.istore_n 1, 1) := by decide +kernel
theorem dX5_countViewsGoingOn_2 : decode cX5_countViewsGoingOn 2 = .ok (.iconst 0, 1) := by decide +kernel
theorem dX5_countViewsGoingOn_3 : decode cX5_countViewsGoingOn 3 = .ok (.istore_n 2, 1) := by decide +kernel
theorem dX5_countViewsGoingOn_4 : decode cX5_countViewsGoingOn 4 = .ok (.iload_n 2, 1) := by decide +kernel
theorem dX5_countViewsGoingOn_5 : decode cX5_countViewsGoingOn 5 = .ok (.aload_n 0, 1) := by decide +kernel
theorem dX5_countViewsGoingOn_6 : decode cX5_countViewsGoingOn 6 = .ok (.getfield 38, 3) := by decide +kernel
theorem dX5_countViewsGoingOn_9 : decode cX5_countViewsGoingOn 9 = .ok (.if_icmp .ge 24, 3) := by decide +kernel
theorem dX5_countViewsGoingOn_12 : decode cX5_countViewsGoingOn 12 = .ok (.aload_n 0, 1) := by decide +kernel
theorem dX5_countViewsGoingOn_13 : decode cX5_countViewsGoingOn 13 = .ok (.iload_n 2, 1) := by decide +kernel
theorem dX5_countViewsGoingOn_14 : decode cX5_countViewsGoingOn 14 = .ok (.invokevirtual 149, 3) := by decide +kernel
theorem dX5_countViewsGoingOn_17 : decode cX5_countViewsGoingOn 17 = .ok (.getfield 157, 3) := by decide +kernel
theorem dX5_countViewsGoingOn_20 : decode cX5_countViewsGoingOn 20 = .ok (.iconst 2, 1) := by decide +kernel
theorem dX5_countViewsGoingOn_21 : decode cX5_countViewsGoingOn 21 = .ok (.if_icmp .eq 6, 3) := by decide +kernel
theorem dX5_countViewsGoingOn_24 : decode cX5_countViewsGoingOn 24 = .ok (.iinc 1 1, 3) := by decide +kernel
theorem dX5_countViewsGoingOn_27 : decode cX5_countViewsGoingOn 27 = .ok (.iinc 2 1, 3) := by decide +kernel
theorem dX5_countViewsGoingOn_30 : decode cX5_countViewsGoingOn 30 = .ok (.goto (-26), 3) := by decide +kernel
theorem dX5_countViewsGoingOn_33 : decode cX5_countViewsGoingOn 33 = .ok (.iload_n 1, 1) := by decide +kernel
theorem dX5_countViewsGoingOn_34 : decode cX5_countViewsGoingOn 34 = .ok (.ireturn, 1) := by decide +kernel
set_option maxRecDepth 20000 in
theorem ggX5_countReadersGoingOn_X5_readerAt : GoodIn wsX5_countReadersGoingOn wsX5_readerAt := goodIn_ca (goodIn_r _ [7, 8, 9, 1, 10, 11, 12, 13, 14, 15, 16, 17, 18, 19, 20] (by decide +kernel) (by decide +kernel)) (goodIn_sub (fun _ h => List.mem_cons_of_mem _ (List.mem_append_right _ h)) (by decide +kernel))
set_option maxRecDepth 20000 in
theorem gX5_countReadersGoingOn_X5_readerAt : GoodIn wsX5_countReadersGoingOn (wsV RX5 222 RX5 yX5_readerAt wsX5_readerAt) := goodIn_app (goodIn_of _ (by decide +kernel)) ggX5_countReadersGoingOn_X5_readerAt
theorem dX5_countReadersGoingOn_0 : decode cX5_countReadersGoingOn 0 = .ok (.iconst 0, 1) := by decide +kernel
theorem dX5_countReadersGoingOn_1 : decode cX5_countReadersGoingOn 1 = .ok (.istore_n 1, 1) := by decide +kernel
theorem dX5_countReadersGoingOn_2 : decode cX5_countReadersGoingOn 2 = .ok (.iconst 0, 1) := by decide +kernel
theorem dX5_countReadersGoingOn_3 : decode cX5_countReadersGoingOn 3 = .ok (.istore_n 2, 1) := by decide +kernel
theorem dX5_countReadersGoingOn_4 : decode cX5_countReadersGoingOn 4 = .ok (.iload_n 2, 1) := by decide +kernel
theorem dX5_countReadersGoingOn_5 : decode cX5_countReadersGoingOn 5 = .ok (.aload_n 0, 1) := by decide +kernel
theorem dX5_countReadersGoingOn_6 : decode cX5_countReadersGoingOn 6 = .ok (.getfield 48, 3) := by decide +kernel
theorem dX5_countReadersGoingOn_9 : decode cX5_countReadersGoingOn 9 = .ok (.if_icmp .ge 23, 3) := by decide +kernel
theorem dX5_countReadersGoingOn_12 : decode cX5_countReadersGoingOn 12 = .ok (.aload_n 0, 1) := by decide +kernel
theorem dX5_countReadersGoingOn_13 : decode cX5_countReadersGoingOn 13 = .ok (.iload_n 2, 1) := by decide +kernel
theorem dX5_countReadersGoingOn_14 : decode cX5_countReadersGoingOn 14 = .ok (.invokevirtual 222, 3) := by decide +kernel
theorem dX5_countReadersGoingOn_17 : decode cX5_countReadersGoingOn 17 = .ok (.getfield 237, 3) := by decide +kernel
theorem dX5_countReadersGoingOn_20 : decode cX5_countReadersGoingOn 20 = .ok (.ifCond .ne 6, 3) := by decide +kernel
theorem dX5_countReadersGoingOn_23 : decode cX5_countReadersGoingOn 23 = .ok (.iinc 1 1, 3) := by decide +kernel
theorem dX5_countReadersGoingOn_26 : decode cX5_countReadersGoingOn 26 = .ok (.iinc 2 1, 3) := by decide +kernel
theorem dX5_countReadersGoingOn_29 : decode cX5_countReadersGoingOn 29 = .ok (.goto (-25), 3) := by decide +kernel
theorem dX5_countReadersGoingOn_32 : decode cX5_countReadersGoingOn 32 = .ok (.iload_n 1, 1) := by decide +kernel
theorem dX5_countReadersGoingOn_33 : decode cX5_countReadersGoingOn 33 = .ok (.ireturn, 1) := by decide +kernel
theorem dX6_init_0 : decode cX6_init 0 = .ok (.aload_n 0, 1) := by decide +kernel
theorem dX6_init_1 : decode cX6_init 1 = .ok (.invokespecial 1, 3) := by decide +kernel
theorem dX6_init_4 : decode cX6_init 4 = .ok (.aload_n 0, 1) := by decide +kernel
theorem dX6_init_5 : decode cX6_init 5 = .ok (.sipush 300, 3) := by decide +kernel
theorem dX6_init_8 : decode cX6_init 8 = .ok (.newarray .long, 2) := by decide +kernel
theorem dX6_init_10 : decode cX6_init 10 = .ok (.putfield 7, 3) := by decide +kernel
theorem dX6_init_13 : decode cX6_init 13 = .ok (.aload_n 0, 1) := by decide +kernel
theorem dX6_init_14 : decode cX6_init 14 = .ok (.sipush 300, 3) := by decide +kernel
theorem dX6_init_17 : decode cX6_init 17 = .ok (.newarray .long, 2) := by decide +kernel
theorem dX6_init_19 : decode cX6_init 19 = .ok (.putfield 13, 3) := by decide +kernel
theorem dX6_init_22 : decode cX6_init 22 = .ok (.aload_n 0, 1) := by decide +kernel
theorem dX6_init_23 : decode cX6_init 23 = .ok (.sipush 300, 3) := by decide +kernel
theorem dX6_init_26 : decode cX6_init 26 = .ok (.newarray .long, 2) := by decide +kernel
theorem dX6_init_28 : decode cX6_init 28 = .ok (.putfield 16, 3) := by decide +kernel
theorem dX6_init_31 : decode cX6_init 31 = .ok (.aload_n 0, 1) := by decide +kernel
theorem dX6_init_32 : decode cX6_init 32 = .ok (.sipush 300, 3) := by decide +kernel
theorem dX6_init_35 : decode cX6_init 35 = .ok (.newarray .int, 2) := by decide +kernel
theorem dX6_init_37 : decode cX6_init 37 = .ok (.putfield 19, 3) := by decide +kernel
theorem dX6_init_40 : decode cX6_init 40 = .ok (.aload_n 0, 1) := by decide +kernel
theorem dX6_init_41 : decode cX6_init 41 = .ok (.sipush 300, 3) := by decide +kernel
theorem dX6_init_44 : decode cX6_init 44 = .ok (.newarray .boolean, 2) := by decide +kernel
theorem dX6_init_46 : decode cX6_init 46 = .ok (.putfield 23, 3) := by decide +kernel
theorem dX6_init_49 : decode cX6_init 49 = .ok (.aload_n 0, 1) := by decide +kernel
theorem dX6_init_50 : decode cX6_init 50 = .ok (.sipush 300, 3) := by decide +kernel
theorem dX6_init_53 : decode cX6_init 53 = .ok (.newarray .boolean, 2) := by decide +kernel
theorem dX6_init_55 : decode cX6_init 55 = .ok (.putfield 27, 3) := by decide +kernel
theorem dX6_init_58 : decode cX6_init 58 = .ok (.aload_n 0, 1) := by decide +kernel
theorem dX6_init_59 : decode cX6_init 59 = .ok (.bipush 30, 2) := by decide +kernel
theorem dX6_init_61 : decode cX6_init 61 = .ok (.newarray .int, 2) := by decide +kernel
theorem dX6_init_63 : decode cX6_init 63 = .ok (.putfield 30, 3) := by decide +kernel
theorem dX6_init_66 : decode cX6_init 66 = .ok (.aload_n 0, 1) := by decide +kernel
theorem dX6_init_67 : decode cX6_init 67 = .ok (.sipush 9000, 3) := by decide +kernel
theorem dX6_init_70 : decode cX6_init 70 = .ok (.newarray .boolean, 2) := by decide +kernel
theorem dX6_init_72 : decode cX6_init 72 = .ok (.putfield 33, 3) := by decide +kernel
theorem dX6_init_75 : decode cX6_init 75 = .ok (.aload_n 0, 1) := by decide +kernel
theorem dX6_init_76 : decode cX6_init 76 = .ok (.sipush 1200, 3) := by decide +kernel
theorem dX6_init_79 : decode cX6_init 79 = .ok (.newarray .boolean, 2) := by decide +kernel
theorem dX6_init_81 : decode cX6_init 81 = .ok (.putfield 36, 3) := by decide +kernel
theorem dX6_init_84 : decode cX6_init 84 = .ok (.aload_n 0, 1) := by decide +kernel
theorem dX6_init_85 : decode cX6_init 85 = .ok (.bipush 60, 2) := by decide +kernel
theorem dX6_init_87 : decode cX6_init 87 = .ok (.newarray .int, 2) := by decide +kernel
theorem dX6_init_89 : decode cX6_init 89 = .ok (.putfield 39, 3) := by decide +kernel
theorem dX6_init_92 : decode cX6_init 92 = .ok (.aload_n 0, 1) := by decide +kernel
theorem dX6_init_93 : decode cX6_init 93 = .ok (.bipush 60, 2) := by decide +kernel
theorem dX6_init_95 : decode cX6_init 95 = .ok (.newarray .int, 2) := by decide +kernel
theorem dX6_init_97 : decode cX6_init 97 = .ok (.putfield 42, 3) := by decide +kernel
theorem dX6_init_100 : decode cX6_init 100 = .ok (.aload_n 0, 1) := by decide +kernel
theorem dX6_init_101 : decode cX6_init 101 = .ok (.bipush 60, 2) := by decide +kernel
theorem dX6_init_103 : decode cX6_init 103 = .ok (.newarray .long, 2) := by decide +kernel
theorem dX6_init_105 : decode cX6_init 105 = .ok (.putfield 45, 3) := by decide +kernel
theorem dX6_init_108 : decode cX6_init 108 = .ok (.aload_n 0, 1) := by decide +kernel
theorem dX6_init_109 : decode cX6_init 109 = .ok (.bipush 60, 2) := by decide +kernel
theorem dX6_init_111 : decode cX6_init 111 = .ok (.newarray .boolean, 2) := by decide +kernel
theorem dX6_init_113 : decode cX6_init 113 = .ok (.putfield 48, 3) := by decide +kernel
theorem dX6_init_116 : decode cX6_init 116 = .ok (.aload_n 0, 1) := by decide +kernel
theorem dX6_init_117 : decode cX6_init 117 = .ok (.bipush 60, 2) := by decide +kernel
theorem dX6_init_119 : decode cX6_init 119 = .ok (.newarray .int, 2) := by decide +kernel
theorem dX6_init_121 : decode cX6_init 121 = .ok (.putfield 51, 3) := by decide +kernel
theorem dX6_init_124 : decode cX6_init 124 = .ok (.aload_n 0, 1) := by decide +kernel
theorem dX6_init_125 : decode cX6_init 125 = .ok (.bipush 60, 2) := by decide +kernel
theorem dX6_init_127 : decode cX6_init 127 = .ok (.newarray .int, 2) := by decide +kernel
theorem dX6_init_129 : decode cX6_init 129 = .ok (.putfield 54, 3) := by decide +kernel
theorem dX6_init_132 : decode cX6_init 132 = .ok (.aload_n 0, 1) := by decide +kernel
theorem dX6_init_133 : decode cX6_init 133 = .ok (.bipush 60, 2) := by decide +kernel
theorem dX6_init_135 : decode cX6_init 135 = .ok (.newarray .int, 2) := by decide +kernel
theorem dX6_init_137 : decode cX6_init 137 = .ok (.putfield 57, 3) := by decide +kernel
theorem dX6_init_140 : decode cX6_init 140 = .ok (.aload_n 0, 1) := by decide +kernel
theorem dX6_init_141 : decode cX6_init 141 = .ok (.bipush 60, 2) := by decide +kernel
theorem dX6_init_143 : decode cX6_init 143 = .ok (.newarray .int, 2) := by decide +kernel
theorem dX6_init_145 : decode cX6_init 145 = .ok (.putfield 60, 3) := by decide +kernel
theorem dX6_init_148 : decode cX6_init 148 = .ok (.aload_n 0, 1) := by decide +kernel
theorem dX6_init_149 : decode cX6_init 149 = .ok (.bipush 60, 2) := by decide +kernel
theorem dX6_init_151 : decode cX6_init 151 = .ok (.newarray .boolean, 2) := by decide +kernel
theorem dX6_init_153 : decode cX6_init 153 = .ok (.putfield 63, 3) := by decide +kernel
theorem dX6_init_156 : decode cX6_init 156 = .ok (.aload_n 0, 1) := by decide +kernel
theorem dX6_init_157 : decode cX6_init 157 = .ok (.bipush 60, 2) := by decide +kernel
theorem dX6_init_159 : decode cX6_init 159 = .ok (.newarray .long, 2) := by decide +kernel
theorem dX6_init_161 : decode cX6_init 161 = .ok (.putfield 66, 3) := by decide +kernel
theorem dX6_init_164 : decode cX6_init 164 = .ok (.aload_n 0, 1) := by decide +kernel
theorem dX6_init_165 : decode cX6_init 165 = .ok (.bipush 60, 2) := by decide +kernel
theorem dX6_init_167 : decode cX6_init 167 = .ok (.newarray .boolean, 2) := by decide +kernel
theorem dX6_init_169 : decode cX6_init 169 = .ok (.putfield 69, 3) := by decide +kernel
theorem dX6_init_172 : decode cX6_init 172 = .ok (.aload_n 0, 1) := by decide +kernel
theorem dX6_init_173 : decode cX6_init 173 = .ok (.bipush 60, 2) := by decide +kernel
theorem dX6_init_175 : decode cX6_init 175 = .ok (.newarray .int, 2) := by decide +kernel
theorem dX6_init_177 : decode cX6_init 177 = .ok (.putfield 72, 3) := by decide +kernel
theorem dX6_init_180 : decode cX6_init 180 = .ok (.aload_n 0, 1) := by decide +kernel
theorem dX6_init_181 : decode cX6_init 181 = .ok (.bipush 50, 2) := by decide +kernel
theorem dX6_init_183 : decode cX6_init 183 = .ok (.newarray .int, 2) := by decide +kernel
theorem dX6_init_185 : decode cX6_init 185 = .ok (.putfield 75, 3) := by decide +kernel
theorem dX6_init_188 : decode cX6_init 188 = .ok (.aload_n 0, 1) := by decide +kernel
theorem dX6_init_189 : decode cX6_init 189 = .ok (.sipush 300, 3) := by decide +kernel
theorem dX6_init_192 : decode cX6_init 192 = .ok (.newarray .boolean, 2) := by decide +kernel
theorem dX6_init_194 : decode cX6_init 194 = .ok (.putfield 78, 3) := by decide +kernel
theorem dX6_init_197 : decode cX6_init 197 = .ok (.return_, 1) := by decide +kernel
theorem dX6_thrown_0 : decode cX6_thrown 0 = .ok (.aload_n 0, 1) := by decide +kernel
theorem dX6_thrown_1 : decode cX6_thrown 1 = .ok (.getfield 81, 3) := by decide +kernel
theorem dX6_thrown_4 : decode cX6_thrown 4 = .ok (.ireturn, 1) := by decide +kernel
theorem dX6_fails_0 : decode cX6_fails 0 = .ok (.aload_n 0, 1) := by decide +kernel
theorem dX6_fails_1 : decode cX6_fails 1 = .ok (.iload_n 1, 1) := by decide +kernel
theorem dX6_fails_2 : decode cX6_fails 2 = .ok (.putfield 81, 3) := by decide +kernel
theorem dX6_fails_5 : decode cX6_fails 5 = .ok (.iconst 0, 1) := by decide +kernel
theorem dX6_fails_6 : decode cX6_fails 6 = .ok (.ireturn, 1) := by decide +kernel
theorem dX6_mix_0 : decode cX6_mix 0 = .ok (.lload_n 0, 1) := by decide +kernel
theorem dX6_mix_1 : decode cX6_mix 1 = .ok (.lload_n 2, 1) := by decide +kernel
theorem dX6_mix_2 : decode cX6_mix 2 = .ok (.ldc2_w 85, 3) := by decide +kernel
theorem dX6_mix_5 : decode cX6_mix 5 = .ok (.lmul, 1) := by decide +kernel
theorem dX6_mix_6 : decode cX6_mix 6 = .ok (.lxor, 1) := by decide +kernel
theorem dX6_mix_7 : decode cX6_mix 7 = .ok (.lstore 4, 2) := by decide +kernel
theorem dX6_mix_9 : decode cX6_mix 9 = .ok (.lload 4, 2) := by decide +kernel
theorem dX6_mix_11 : decode cX6_mix 11 = .ok (.lload 4, 2) := by decide +kernel
theorem dX6_mix_13 : decode cX6_mix 13 = .ok (.bipush 30, 2) := by decide +kernel
theorem dX6_mix_15 : decode cX6_mix 15 = .ok (.lushr, 1) := by decide +kernel
theorem dX6_mix_16 : decode cX6_mix 16 = .ok (.lxor, 1) := by decide +kernel
theorem dX6_mix_17 : decode cX6_mix 17 = .ok (.ldc2_w 87, 3) := by decide +kernel
theorem dX6_mix_20 : decode cX6_mix 20 = .ok (.lmul, 1) := by decide +kernel
theorem dX6_mix_21 : decode cX6_mix 21 = .ok (.lstore 4, 2) := by decide +kernel
theorem dX6_mix_23 : decode cX6_mix 23 = .ok (.lload 4, 2) := by decide +kernel
theorem dX6_mix_25 : decode cX6_mix 25 = .ok (.lload 4, 2) := by decide +kernel
theorem dX6_mix_27 : decode cX6_mix 27 = .ok (.bipush 27, 2) := by decide +kernel
theorem dX6_mix_29 : decode cX6_mix 29 = .ok (.lushr, 1) := by decide +kernel
theorem dX6_mix_30 : decode cX6_mix 30 = .ok (.lxor, 1) := by decide +kernel
theorem dX6_mix_31 : decode cX6_mix 31 = .ok (.ldc2_w 89, 3) := by decide +kernel
theorem dX6_mix_34 : decode cX6_mix 34 = .ok (.lmul, 1) := by decide +kernel
theorem dX6_mix_35 : decode cX6_mix 35 = .ok (.lstore 4, 2) := by decide +kernel
theorem dX6_mix_37 : decode cX6_mix 37 = .ok (.lload 4, 2) := by decide +kernel
theorem dX6_mix_39 : decode cX6_mix 39 = .ok (.lload 4, 2) := by decide +kernel
theorem dX6_mix_41 : decode cX6_mix 41 = .ok (.bipush 31, 2) := by decide +kernel
theorem dX6_mix_43 : decode cX6_mix 43 = .ok (.lushr, 1) := by decide +kernel
theorem dX6_mix_44 : decode cX6_mix 44 = .ok (.lxor, 1) := by decide +kernel
theorem dX6_mix_45 : decode cX6_mix 45 = .ok (.lreturn, 1) := by decide +kernel
set_option maxRecDepth 20000 in
theorem ggX6_isAhead_X6_mix : GoodIn wsX6_isAhead wsX6_mix := goodIn_r _ [7, 8, 9, 10] (by decide +kernel) (by decide +kernel)
set_option maxRecDepth 20000 in
theorem gX6_isAhead_X6_mix : GoodIn wsX6_isAhead (va_wsS RX6 91 yX6_mix wsX6_mix) := goodIn_app (goodIn_of _ (by decide +kernel)) ggX6_isAhead_X6_mix
theorem dX6_isAhead_0 : decode cX6_isAhead 0 = .ok (.iload_n 3, 1) := by decide +kernel
theorem dX6_isAhead_1 : decode cX6_isAhead 1 = .ok (.ifCond .ne 12, 3) := by decide +kernel
theorem dX6_isAhead_4 : decode cX6_isAhead 4 = .ok (.aload_n 0, 1) := by decide +kernel
theorem dX6_isAhead_5 : decode cX6_isAhead 5 = .ok (.getfield 16, 3) := by decide +kernel
theorem dX6_isAhead_8 : decode cX6_isAhead 8 = .ok (.iload_n 1, 1) := by decide +kernel
theorem dX6_isAhead_9 : decode cX6_isAhead 9 = .ok (.laload, 1) := by decide +kernel
theorem dX6_isAhead_10 : decode cX6_isAhead 10 = .ok (.goto 32, 3) := by decide +kernel
theorem dX6_isAhead_13 : decode cX6_isAhead 13 = .ok (.iload_n 3, 1) := by decide +kernel
theorem dX6_isAhead_14 : decode cX6_isAhead 14 = .ok (.iconst 1, 1) := by decide +kernel
theorem dX6_isAhead_15 : decode cX6_isAhead 15 = .ok (.if_icmp .ne 12, 3) := by decide +kernel
theorem dX6_isAhead_18 : decode cX6_isAhead 18 = .ok (.aload_n 0, 1) := by decide +kernel
theorem dX6_isAhead_19 : decode cX6_isAhead 19 = .ok (.getfield 16, 3) := by decide +kernel
theorem dX6_isAhead_22 : decode cX6_isAhead 22 = .ok (.iload_n 2, 1) := by decide +kernel
theorem dX6_isAhead_23 : decode cX6_isAhead 23 = .ok (.laload, 1) := by decide +kernel
theorem dX6_isAhead_24 : decode cX6_isAhead 24 = .ok (.goto 18, 3) := by decide +kernel
theorem dX6_isAhead_27 : decode cX6_isAhead 27 = .ok (.aload_n 0, 1) := by decide +kernel
theorem dX6_isAhead_28 : decode cX6_isAhead 28 = .ok (.getfield 13, 3) := by decide +kernel
theorem dX6_isAhead_31 : decode cX6_isAhead 31 = .ok (.iload_n 1, 1) := by decide +kernel
theorem dX6_isAhead_32 : decode cX6_isAhead 32 = .ok (.laload, 1) := by decide +kernel
theorem dX6_isAhead_33 : decode cX6_isAhead 33 = .ok (.lload 4, 2) := by decide +kernel
theorem dX6_isAhead_35 : decode cX6_isAhead 35 = .ok (.invokestatic 91, 3) := by decide +kernel
theorem dX6_isAhead_38 : decode cX6_isAhead 38 = .ok (.ldc2_w 95, 3) := by decide +kernel
theorem dX6_isAhead_41 : decode cX6_isAhead 41 = .ok (.lxor, 1) := by decide +kernel
theorem dX6_isAhead_42 : decode cX6_isAhead 42 = .ok (.lstore 6, 2) := by decide +kernel
theorem dX6_isAhead_44 : decode cX6_isAhead 44 = .ok (.iload_n 3, 1) := by decide +kernel
theorem dX6_isAhead_45 : decode cX6_isAhead 45 = .ok (.ifCond .ne 12, 3) := by decide +kernel
theorem dX6_isAhead_48 : decode cX6_isAhead 48 = .ok (.aload_n 0, 1) := by decide +kernel
theorem dX6_isAhead_49 : decode cX6_isAhead 49 = .ok (.getfield 16, 3) := by decide +kernel
theorem dX6_isAhead_52 : decode cX6_isAhead 52 = .ok (.iload_n 2, 1) := by decide +kernel
theorem dX6_isAhead_53 : decode cX6_isAhead 53 = .ok (.laload, 1) := by decide +kernel
theorem dX6_isAhead_54 : decode cX6_isAhead 54 = .ok (.goto 32, 3) := by decide +kernel
theorem dX6_isAhead_57 : decode cX6_isAhead 57 = .ok (.iload_n 3, 1) := by decide +kernel
theorem dX6_isAhead_58 : decode cX6_isAhead 58 = .ok (.iconst 1, 1) := by decide +kernel
theorem dX6_isAhead_59 : decode cX6_isAhead 59 = .ok (.if_icmp .ne 12, 3) := by decide +kernel
theorem dX6_isAhead_62 : decode cX6_isAhead 62 = .ok (.aload_n 0, 1) := by decide +kernel
theorem dX6_isAhead_63 : decode cX6_isAhead 63 = .ok (.getfield 16, 3) := by decide +kernel
theorem dX6_isAhead_66 : decode cX6_isAhead 66 = .ok (.iload_n 1, 1) := by decide +kernel
theorem dX6_isAhead_67 : decode cX6_isAhead 67 = .ok (.laload, 1) := by decide +kernel
theorem dX6_isAhead_68 : decode cX6_isAhead 68 = .ok (.goto 18, 3) := by decide +kernel
theorem dX6_isAhead_71 : decode cX6_isAhead 71 = .ok (.aload_n 0, 1) := by decide +kernel
theorem dX6_isAhead_72 : decode cX6_isAhead 72 = .ok (.getfield 13, 3) := by decide +kernel
theorem dX6_isAhead_75 : decode cX6_isAhead 75 = .ok (.iload_n 2, 1) := by decide +kernel
theorem dX6_isAhead_76 : decode cX6_isAhead 76 = .ok (.laload, 1) := by decide +kernel
theorem dX6_isAhead_77 : decode cX6_isAhead 77 = .ok (.lload 4, 2) := by decide +kernel
theorem dX6_isAhead_79 : decode cX6_isAhead 79 = .ok (.invokestatic 91, 3) := by decide +kernel
theorem dX6_isAhead_82 : decode cX6_isAhead 82 = .ok (.ldc2_w 95, 3) := by decide +kernel
theorem dX6_isAhead_85 : decode cX6_isAhead 85 = .ok (.lxor, 1) := by decide +kernel
theorem dX6_isAhead_86 : decode cX6_isAhead 86 = .ok (.lstore 8, 2) := by decide +kernel
theorem dX6_isAhead_88 : decode cX6_isAhead 88 = .ok (.lload 6, 2) := by decide +kernel
theorem dX6_isAhead_90 : decode cX6_isAhead 90 = .ok (.lload 8, 2) := by decide +kernel
theorem dX6_isAhead_92 : decode cX6_isAhead 92 = .ok (.lcmp, 1) := by decide +kernel
theorem dX6_isAhead_93 : decode cX6_isAhead 93 = .ok (.ifCond .eq 17, 3) := by decide +kernel
theorem dX6_isAhead_96 : decode cX6_isAhead 96 = .ok (.lload 6, 2) := by decide +kernel
theorem dX6_isAhead_98 : decode cX6_isAhead 98 = .ok (.lload 8, 2) := by decide +kernel
theorem dX6_isAhead_100 : decode cX6_isAhead 100 = .ok (.lcmp, 1) := by decide +kernel
theorem dX6_isAhead_101 : decode cX6_isAhead 101 = .ok (.ifCond .ge 7, 3) := by decide +kernel
theorem dX6_isAhead_104 : decode cX6_isAhead 104 = .ok (.iconst 1, 1) := by decide +kernel
theorem dX6_isAhead_105 : decode cX6_isAhead 105 = .ok (.goto 4, 3) := by decide +kernel
theorem dX6_isAhead_108 : decode cX6_isAhead 108 = .ok (.iconst 0, 1) := by decide +kernel
theorem dX6_isAhead_109 : decode cX6_isAhead 109 = .ok (.ireturn, 1) := by decide +kernel
theorem dX6_isAhead_110 : decode cX6_isAhead 110 = .ok (.aload_n 0, 1) := by decide +kernel
theorem dX6_isAhead_111 : decode cX6_isAhead 111 = .ok (.getfield 13, 3) := by decide +kernel
theorem dX6_isAhead_114 : decode cX6_isAhead 114 = .ok (.iload_n 1, 1) := by decide +kernel
theorem dX6_isAhead_115 : decode cX6_isAhead 115 = .ok (.laload, 1) := by decide +kernel
theorem dX6_isAhead_116 : decode cX6_isAhead 116 = .ok (.aload_n 0, 1) := by decide +kernel
theorem dX6_isAhead_117 : decode cX6_isAhead 117 = .ok (.getfield 13, 3) := by decide +kernel
theorem dX6_isAhead_120 : decode cX6_isAhead 120 = .ok (.iload_n 2, 1) := by decide +kernel
theorem dX6_isAhead_121 : decode cX6_isAhead 121 = .ok (.laload, 1) := by decide +kernel
theorem dX6_isAhead_122 : decode cX6_isAhead 122 = .ok (.lcmp, 1) := by decide +kernel
theorem dX6_isAhead_123 : decode cX6_isAhead 123 = .ok (.ifCond .eq 27, 3) := by decide +kernel
theorem dX6_isAhead_126 : decode cX6_isAhead 126 = .ok (.aload_n 0, 1) := by decide +kernel
theorem dX6_isAhead_127 : decode cX6_isAhead 127 = .ok (.getfield 13, 3) := by decide +kernel
theorem dX6_isAhead_130 : decode cX6_isAhead 130 = .ok (.iload_n 1, 1) := by decide +kernel
theorem dX6_isAhead_131 : decode cX6_isAhead 131 = .ok (.laload, 1) := by decide +kernel
theorem dX6_isAhead_132 : decode cX6_isAhead 132 = .ok (.aload_n 0, 1) := by decide +kernel
theorem dX6_isAhead_133 : decode cX6_isAhead 133 = .ok (.getfield 13, 3) := by decide +kernel
theorem dX6_isAhead_136 : decode cX6_isAhead 136 = .ok (.iload_n 2, 1) := by decide +kernel
theorem dX6_isAhead_137 : decode cX6_isAhead 137 = .ok (.laload, 1) := by decide +kernel
theorem dX6_isAhead_138 : decode cX6_isAhead 138 = .ok (.lcmp, 1) := by decide +kernel
theorem dX6_isAhead_139 : decode cX6_isAhead 139 = .ok (.ifCond .ge 7, 3) := by decide +kernel
theorem dX6_isAhead_142 : decode cX6_isAhead 142 = .ok (.iconst 1, 1) := by decide +kernel
theorem dX6_isAhead_143 : decode cX6_isAhead 143 = .ok (.goto 17, 3) := by decide +kernel
theorem dX6_isAhead_146 : decode cX6_isAhead 146 = .ok (.iconst 0, 1) := by decide +kernel
theorem dX6_isAhead_147 : decode cX6_isAhead 147 = .ok (.goto 13, 3) := by decide +kernel
theorem dX6_isAhead_150 : decode cX6_isAhead 150 = .ok (.iload_n 1, 1) := by decide +kernel
theorem dX6_isAhead_151 : decode cX6_isAhead 151 = .ok (.iload_n 2, 1) := by decide +kernel
theorem dX6_isAhead_152 : decode cX6_isAhead 152 = .ok (.if_icmp .ge 7, 3) := by decide +kernel
theorem dX6_isAhead_155 : decode cX6_isAhead 155 = .ok (.iconst 1, 1) := by decide +kernel
theorem dX6_isAhead_156 : decode cX6_isAhead 156 = .ok (.goto 4, 3) := by decide +kernel
theorem dX6_isAhead_159 : decode cX6_isAhead 159 = .ok (.iconst 0, 1) := by decide +kernel
theorem dX6_isAhead_160 : decode cX6_isAhead 160 = .ok (.ireturn, 1) := by decide +kernel
theorem dX6_isIn_0 : decode cX6_isIn 0 = .ok (.aload_n 0, 1) := by decide +kernel
theorem dX6_isIn_1 : decode cX6_isIn 1 = .ok (.getfield 33, 3) := by decide +kernel
theorem dX6_isIn_4 : decode cX6_isIn 4 = .ok (.sipush 300, 3) := by decide +kernel
theorem dX6_isIn_7 : decode cX6_isIn 7 = .ok (.iload_n 1, 1) := by decide +kernel
theorem dX6_isIn_8 : decode cX6_isIn 8 = .ok (.imul, 1) := by decide +kernel
theorem dX6_isIn_9 : decode cX6_isIn 9 = .ok (.iload_n 2, 1) := by decide +kernel
theorem dX6_isIn_10 : decode cX6_isIn 10 = .ok (.iadd, 1) := by decide +kernel
theorem dX6_isIn_11 : decode cX6_isIn 11 = .ok (.baload, 1) := by decide +kernel
theorem dX6_isIn_12 : decode cX6_isIn 12 = .ok (.ireturn, 1) := by decide +kernel
set_option maxRecDepth 20000 in
theorem ggX6_rank_X6_isIn : GoodIn wsX6_rank wsX6_isIn := goodIn_r _ [6, 7, 21, 22, 23, 24, 25, 26, 27, 28, 29, 30, 31, 32, 33, 34, 35, 36, 37, 38, 39, 40, 41, 42, 43, 44, 45, 46, 47, 48, 49, 50] (by decide +kernel) (by decide +kernel)
set_option maxRecDepth 20000 in
theorem gX6_rank_X6_isIn : GoodIn wsX6_rank (wsV RX6 100 RX6 yX6_isIn wsX6_isIn) := goodIn_app (goodIn_of _ (by decide +kernel)) ggX6_rank_X6_isIn
set_option maxRecDepth 20000 in
theorem ggX6_rank_X6_isAhead : GoodIn wsX6_rank wsX6_isAhead := goodIn_r _ [11, 12, 13, 14, 15, 16, 5, 17, 18, 19, 20, 21, 22, 23, 24, 25, 26, 27, 28, 29, 30, 31, 32, 33, 34, 35, 36, 37, 38, 39, 40, 41, 42, 43, 44, 45, 46, 47, 48, 49, 50] (by decide +kernel) (by decide +kernel)
set_option maxRecDepth 20000 in
theorem gX6_rank_X6_isAhead : GoodIn wsX6_rank (wsV RX6 104 RX6 yX6_isAhead wsX6_isAhead) := goodIn_app (goodIn_of _ (by decide +kernel)) ggX6_rank_X6_isAhead
theorem dX6_rank_0 : decode cX6_rank 0 = .ok (.iconst 0, 1) := by decide +kernel
theorem dX6_rank_1 : decode cX6_rank 1 = .ok (.istore 6, 2) := by decide +kernel
theorem dX6_rank_3 : decode cX6_rank 3 = .ok (.iconst 0, 1) := by decide +kernel
theorem dX6_rank_4 : decode cX6_rank 4 = .ok (.istore 7, 2) := by decide +kernel
theorem dX6_rank_6 : decode cX6_rank 6 = .ok (.iload 7, 2) := by decide +kernel
theorem dX6_rank_8 : decode cX6_rank 8 = .ok (.aload_n 0, 1) := by decide +kernel
theorem dX6_rank_9 : decode cX6_rank 9 = .ok (.getfield 97, 3) := by decide +kernel
theorem dX6_rank_12 : decode cX6_rank 12 = .ok (.if_icmp .ge 42, 3) := by decide +kernel
theorem dX6_rank_15 : decode cX6_rank 15 = .ok (.iload 6, 2) := by decide +kernel
theorem dX6_rank_17 : decode cX6_rank 17 = .ok (.aload_n 0, 1) := by decide +kernel
theorem dX6_rank_18 : decode cX6_rank 18 = .ok (.iload_n 1, 1) := by decide +kernel
theorem dX6_rank_19 : decode cX6_rank 19 = .ok (.iload 7, 2) := by decide +kernel
theorem dX6_rank_21 : decode cX6_rank 21 = .ok (.invokevirtual 100, 3) := by decide +kernel
theorem dX6_rank_24 : decode cX6_rank 24 = .ok (.ifCond .eq 20, 3) := by decide +kernel
theorem dX6_rank_27 : decode cX6_rank 27 = .ok (.aload_n 0, 1) := by decide +kernel
theorem dX6_rank_28 : decode cX6_rank 28 = .ok (.iload 7, 2) := by decide +kernel
theorem dX6_rank_30 : decode cX6_rank 30 = .ok (.iload_n 2, 1) := by decide +kernel
theorem dX6_rank_31 : decode cX6_rank 31 = .ok (.iload_n 3, 1) := by decide +kernel
theorem dX6_rank_32 : decode cX6_rank 32 = .ok (.lload 4, 2) := by decide +kernel
theorem dX6_rank_34 : decode cX6_rank 34 = .ok (.invokevirtual 104, 3) := by decide +kernel
theorem dX6_rank_37 : decode cX6_rank 37 = .ok (.ifCond .eq 7, 3) := by decide +kernel
theorem dX6_rank_40 : decode cX6_rank 40 = .ok (.iconst 1, 1) := by decide +kernel
theorem dX6_rank_41 : decode cX6_rank 41 = .ok (.goto 4, 3) := by decide +kernel
theorem dX6_rank_44 : decode cX6_rank 44 = .ok (.iconst 0, 1) := by decide +kernel
theorem dX6_rank_45 : decode cX6_rank 45 = .ok (.iadd, 1) := by decide +kernel
theorem dX6_rank_46 : decode cX6_rank 46 = .ok (.istore 6, 2) := by decide +kernel
theorem dX6_rank_48 : decode cX6_rank 48 = .ok (.iinc 7 1, 3) := by decide +kernel
theorem dX6_rank_51 : decode cX6_rank 51 = .ok (.goto (-45), 3) := by decide +kernel
theorem dX6_rank_54 : decode cX6_rank 54 = .ok (.iload 6, 2) := by decide +kernel
theorem dX6_rank_56 : decode cX6_rank 56 = .ok (.ireturn, 1) := by decide +kernel
set_option maxRecDepth 20000 in
theorem ggX6_isFirst_X6_isIn : GoodIn wsX6_isFirst wsX6_isIn := goodIn_r _ [7, 8, 22, 23, 24, 25, 26, 27, 28, 29, 30, 31, 32, 33, 34, 35, 36, 37, 38, 39, 40, 41, 42, 43, 44, 45, 46, 47, 48, 49, 50, 51] (by decide +kernel) (by decide +kernel)
set_option maxRecDepth 20000 in
theorem gX6_isFirst_X6_isIn : GoodIn wsX6_isFirst (wsV RX6 100 RX6 yX6_isIn wsX6_isIn) := goodIn_app (goodIn_of _ (by decide +kernel)) ggX6_isFirst_X6_isIn
set_option maxRecDepth 20000 in
theorem ggX6_isFirst_X6_isAhead : GoodIn wsX6_isFirst wsX6_isAhead := goodIn_r _ [12, 13, 14, 15, 16, 17, 6, 18, 19, 20, 21, 22, 23, 24, 25, 26, 27, 28, 29, 30, 31, 32, 33, 34, 35, 36, 37, 38, 39, 40, 41, 42, 43, 44, 45, 46, 47, 48, 49, 50, 51] (by decide +kernel) (by decide +kernel)
set_option maxRecDepth 20000 in
theorem gX6_isFirst_X6_isAhead : GoodIn wsX6_isFirst (wsV RX6 104 RX6 yX6_isAhead wsX6_isAhead) := goodIn_app (goodIn_of _ (by decide +kernel)) ggX6_isFirst_X6_isAhead
theorem dX6_isFirst_0 : decode cX6_isFirst 0 = .ok (.aload_n 0, 1) := by decide +kernel
theorem dX6_isFirst_1 : decode cX6_isFirst 1 = .ok (.iload_n 1, 1) := by decide +kernel
theorem dX6_isFirst_2 : decode cX6_isFirst 2 = .ok (.iload_n 2, 1) := by decide +kernel
theorem dX6_isFirst_3 : decode cX6_isFirst 3 = .ok (.invokevirtual 100, 3) := by decide +kernel
theorem dX6_isFirst_6 : decode cX6_isFirst 6 = .ok (.istore 6, 2) := by decide +kernel
theorem dX6_isFirst_8 : decode cX6_isFirst 8 = .ok (.iconst 0, 1) := by decide +kernel
theorem dX6_isFirst_9 : decode cX6_isFirst 9 = .ok (.istore 7, 2) := by decide +kernel
theorem dX6_isFirst_11 : decode cX6_isFirst 11 = .ok (.iload 7, 2) := by decide +kernel
theorem dX6_isFirst_13 : decode cX6_isFirst 13 = .ok (.aload_n 0, 1) := by decide +kernel
theorem dX6_isFirst_14 : decode cX6_isFirst 14 = .ok (.getfield 97, 3) := by decide +kernel
theorem dX6_isFirst_17 : decode cX6_isFirst 17 = .ok (.if_icmp .ge 61, 3) := by decide +kernel
theorem dX6_isFirst_20 : decode cX6_isFirst 20 = .ok (.iload 6, 2) := by decide +kernel
theorem dX6_isFirst_22 : decode cX6_isFirst 22 = .ok (.ifCond .eq 56, 3) := by decide +kernel
theorem dX6_isFirst_25 : decode cX6_isFirst 25 = .ok (.aload_n 0, 1) := by decide +kernel
theorem dX6_isFirst_26 : decode cX6_isFirst 26 = .ok (.iload_n 1, 1) := by decide +kernel
theorem dX6_isFirst_27 : decode cX6_isFirst 27 = .ok (.iload 7, 2) := by decide +kernel
theorem dX6_isFirst_29 : decode cX6_isFirst 29 = .ok (.invokevirtual 100, 3) := by decide +kernel
theorem dX6_isFirst_32 : decode cX6_isFirst 32 = .ok (.ifCond .eq 33, 3) := by decide +kernel
theorem dX6_isFirst_35 : decode cX6_isFirst 35 = .ok (.aload_n 0, 1) := by decide +kernel
theorem dX6_isFirst_36 : decode cX6_isFirst 36 = .ok (.getfield 7, 3) := by decide +kernel
theorem dX6_isFirst_39 : decode cX6_isFirst 39 = .ok (.iload 7, 2) := by decide +kernel
theorem dX6_isFirst_41 : decode cX6_isFirst 41 = .ok (.laload, 1) := by decide +kernel
theorem dX6_isFirst_42 : decode cX6_isFirst 42 = .ok (.aload_n 0, 1) := by decide +kernel
theorem dX6_isFirst_43 : decode cX6_isFirst 43 = .ok (.getfield 7, 3) := by decide +kernel
theorem dX6_isFirst_46 : decode cX6_isFirst 46 = .ok (.iload_n 2, 1) := by decide +kernel
theorem dX6_isFirst_47 : decode cX6_isFirst 47 = .ok (.laload, 1) := by decide +kernel
theorem dX6_isFirst_48 : decode cX6_isFirst 48 = .ok (.lcmp, 1) := by decide +kernel
theorem dX6_isFirst_49 : decode cX6_isFirst 49 = .ok (.ifCond .ne 16, 3) := by decide +kernel
theorem dX6_isFirst_52 : decode cX6_isFirst 52 = .ok (.aload_n 0, 1) := by decide +kernel
theorem dX6_isFirst_53 : decode cX6_isFirst 53 = .ok (.iload 7, 2) := by decide +kernel
theorem dX6_isFirst_55 : decode cX6_isFirst 55 = .ok (.iload_n 2, 1) := by decide +kernel
theorem dX6_isFirst_56 : decode cX6_isFirst 56 = .ok (.iload_n 3, 1) := by decide +kernel
theorem dX6_isFirst_57 : decode cX6_isFirst 57 = .ok (.lload 4, 2) := by decide +kernel
theorem dX6_isFirst_59 : decode cX6_isFirst 59 = .ok (.invokevirtual 104, 3) := by decide +kernel
theorem dX6_isFirst_62 : decode cX6_isFirst 62 = .ok (.ifCond .ne 7, 3) := by decide +kernel
theorem dX6_isFirst_65 : decode cX6_isFirst 65 = .ok (.iconst 1, 1) := by decide +kernel
theorem dX6_isFirst_66 : decode cX6_isFirst 66 = .ok (.goto 4, 3) := by decide +kernel
theorem dX6_isFirst_69 : decode cX6_isFirst 69 = .ok (.iconst 0, 1) := by decide +kernel
theorem dX6_isFirst_70 : decode cX6_isFirst 70 = .ok (.istore 6, 2) := by decide +kernel
theorem dX6_isFirst_72 : decode cX6_isFirst 72 = .ok (.iinc 7 1, 3) := by decide +kernel
theorem dX6_isFirst_75 : decode cX6_isFirst 75 = .ok (.goto (-64), 3) := by decide +kernel
theorem dX6_isFirst_78 : decode cX6_isFirst 78 = .ok (.iload 6, 2) := by decide +kernel
theorem dX6_isFirst_80 : decode cX6_isFirst 80 = .ok (.ireturn, 1) := by decide +kernel
set_option maxRecDepth 20000 in
theorem ggX6_groupCount_X6_isFirst : GoodIn wsX6_groupCount wsX6_isFirst := goodIn_r _ [6, 1, 7, 8, 9, 10, 5, 11, 12, 13, 14, 15, 16, 17, 18, 19, 20, 21, 22, 23, 24, 25, 26, 27, 28, 29, 30, 31, 32, 33, 34, 35, 36, 37, 38, 39, 40, 41, 42, 43, 44, 45, 46, 47, 48, 49, 50, 51, 52, 53, 54, 55] (by decide +kernel) (by decide +kernel)
set_option maxRecDepth 20000 in
theorem gX6_groupCount_X6_isFirst : GoodIn wsX6_groupCount (wsV RX6 108 RX6 yX6_isFirst wsX6_isFirst) := goodIn_app (goodIn_of _ (by decide +kernel)) ggX6_groupCount_X6_isFirst
theorem dX6_groupCount_0 : decode cX6_groupCount 0 = .ok (.iconst 0, 1) := by decide +kernel
theorem dX6_groupCount_1 : decode cX6_groupCount 1 = .ok (.istore_n 2, 1) := by decide +kernel
theorem dX6_groupCount_2 : decode cX6_groupCount 2 = .ok (.iconst 0, 1) := by decide +kernel
theorem dX6_groupCount_3 : decode cX6_groupCount 3 = .ok (.istore_n 3, 1) := by decide +kernel
theorem dX6_groupCount_4 : decode cX6_groupCount 4 = .ok (.iload_n 3, 1) := by decide +kernel
theorem dX6_groupCount_5 : decode cX6_groupCount 5 = .ok (.aload_n 0, 1) := by decide +kernel
theorem dX6_groupCount_6 : decode cX6_groupCount 6 = .ok (.getfield 97, 3) := by decide +kernel
theorem dX6_groupCount_9 : decode cX6_groupCount 9 = .ok (.if_icmp .ge 28, 3) := by decide +kernel
