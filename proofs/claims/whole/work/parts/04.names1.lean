theorem dX0_init_0 : decode cX0_init 0 = .ok (.aload_n 0, 1) := by decide +kernel
theorem dX0_init_1 : decode cX0_init 1 = .ok (.invokespecial 3, 3) := by decide +kernel
theorem dX0_init_4 : decode cX0_init 4 = .ok (.aload_n 0, 1) := by decide +kernel
theorem dX0_init_5 : decode cX0_init 5 = .ok (.sipush 300, 3) := by decide +kernel
theorem dX0_init_8 : decode cX0_init 8 = .ok (.newarray .int, 2) := by decide +kernel
theorem dX0_init_10 : decode cX0_init 10 = .ok (.putfield 9, 3) := by decide +kernel
theorem dX0_init_13 : decode cX0_init 13 = .ok (.aload_n 0, 1) := by decide +kernel
theorem dX0_init_14 : decode cX0_init 14 = .ok (.sipush 300, 3) := by decide +kernel
theorem dX0_init_17 : decode cX0_init 17 = .ok (.newarray .int, 2) := by decide +kernel
theorem dX0_init_19 : decode cX0_init 19 = .ok (.putfield 15, 3) := by decide +kernel
theorem dX0_init_22 : decode cX0_init 22 = .ok (.aload_n 0, 1) := by decide +kernel
theorem dX0_init_23 : decode cX0_init 23 = .ok (.sipush 300, 3) := by decide +kernel
theorem dX0_init_26 : decode cX0_init 26 = .ok (.newarray .long, 2) := by decide +kernel
theorem dX0_init_28 : decode cX0_init 28 = .ok (.putfield 18, 3) := by decide +kernel
theorem dX0_init_31 : decode cX0_init 31 = .ok (.aload_n 0, 1) := by decide +kernel
theorem dX0_init_32 : decode cX0_init 32 = .ok (.sipush 300, 3) := by decide +kernel
theorem dX0_init_35 : decode cX0_init 35 = .ok (.newarray .boolean, 2) := by decide +kernel
theorem dX0_init_37 : decode cX0_init 37 = .ok (.putfield 22, 3) := by decide +kernel
theorem dX0_init_40 : decode cX0_init 40 = .ok (.aload_n 0, 1) := by decide +kernel
theorem dX0_init_41 : decode cX0_init 41 = .ok (.sipush 300, 3) := by decide +kernel
theorem dX0_init_44 : decode cX0_init 44 = .ok (.newarray .int, 2) := by decide +kernel
theorem dX0_init_46 : decode cX0_init 46 = .ok (.putfield 26, 3) := by decide +kernel
theorem dX0_init_49 : decode cX0_init 49 = .ok (.aload_n 0, 1) := by decide +kernel
theorem dX0_init_50 : decode cX0_init 50 = .ok (.iconst 0, 1) := by decide +kernel
theorem dX0_init_51 : decode cX0_init 51 = .ok (.putfield 29, 3) := by decide +kernel
theorem dX0_init_54 : decode cX0_init 54 = .ok (.aload_n 0, 1) := by decide +kernel
theorem dX0_init_55 : decode cX0_init 55 = .ok (.aload_n 1, 1) := by decide +kernel
theorem dX0_init_56 : decode cX0_init 56 = .ok (.putfield 33, 3) := by decide +kernel
theorem dX0_init_59 : decode cX0_init 59 = .ok (.return_, 1) := by decide +kernel
theorem dX0_load_0 : decode cX0_load 0 = .ok (.aload_n 0, 1) := by decide +kernel
theorem dX0_load_1 : decode cX0_load 1 = .ok (.iload_n 2, 1) := by decide +kernel
theorem dX0_load_2 : decode cX0_load 2 = .ok (.aload_n 1, 1) := by decide +kernel
theorem dX0_load_3 : decode cX0_load 3 = .ok (.arraylength, 1) := by decide +kernel
theorem dX0_load_4 : decode cX0_load 4 = .ok (.invokestatic 37, 3) := by decide +kernel
theorem dX0_load_7 : decode cX0_load 7 = .ok (.putfield 29, 3) := by decide +kernel
theorem dX0_load_10 : decode cX0_load 10 = .ok (.aload_n 1, 1) := by decide +kernel
theorem dX0_load_11 : decode cX0_load 11 = .ok (.iconst 0, 1) := by decide +kernel
theorem dX0_load_12 : decode cX0_load 12 = .ok (.aload_n 0, 1) := by decide +kernel
theorem dX0_load_13 : decode cX0_load 13 = .ok (.getfield 9, 3) := by decide +kernel
theorem dX0_load_16 : decode cX0_load 16 = .ok (.iconst 0, 1) := by decide +kernel
theorem dX0_load_17 : decode cX0_load 17 = .ok (.aload_n 0, 1) := by decide +kernel
theorem dX0_load_18 : decode cX0_load 18 = .ok (.getfield 29, 3) := by decide +kernel
theorem dX0_load_21 : decode cX0_load 21 = .ok (.invokestatic 43, 3) := by decide +kernel
theorem dX0_load_24 : decode cX0_load 24 = .ok (.return_, 1) := by decide +kernel
set_option maxRecDepth 20000 in
theorem ggX0_arrange_X0_weigh : GoodIn wsX0_arrange wsX0_weigh := goodIn_r _ [13, 14, 15, 16, 17, 18, 19, 20, 12, 21, 22, 23, 24, 33, 34, 35, 36, 37, 38, 39, 40, 41, 42, 43, 44, 45, 46, 47] (by decide +kernel) (by decide +kernel)
set_option maxRecDepth 20000 in
theorem gX0_arrange_X0_weigh : GoodIn wsX0_arrange (wsV RX0 49 RX0 yX0_weigh wsX0_weigh) := goodIn_app (goodIn_of _ (by decide +kernel)) ggX0_arrange_X0_weigh
set_option maxRecDepth 20000 in
theorem ggX0_arrange_X0_mergeRuns : GoodIn wsX0_arrange wsX0_mergeRuns := goodIn_r _ [28, 3, 8, 29, 30, 31, 12, 32, 2, 14, 17, 33, 34, 35, 36, 37, 38, 39, 40, 41, 42, 43, 44, 45, 46, 47] (by decide +kernel) (by decide +kernel)
set_option maxRecDepth 20000 in
theorem gX0_arrange_X0_mergeRuns : GoodIn wsX0_arrange (wsV RX0 53 RX0 yX0_mergeRuns wsX0_mergeRuns) := goodIn_app (goodIn_of _ (by decide +kernel)) ggX0_arrange_X0_mergeRuns
theorem dX0_arrange_0 : decode cX0_arrange 0 = .ok (.iconst 0, 1) := by decide +kernel
theorem dX0_arrange_1 : decode cX0_arrange 1 = .ok (.istore 4, 2) := by decide +kernel
theorem dX0_arrange_3 : decode cX0_arrange 3 = .ok (.iload 4, 2) := by decide +kernel
theorem dX0_arrange_5 : decode cX0_arrange 5 = .ok (.aload_n 0, 1) := by decide +kernel
theorem dX0_arrange_6 : decode cX0_arrange 6 = .ok (.getfield 29, 3) := by decide +kernel
theorem dX0_arrange_9 : decode cX0_arrange 9 = .ok (.if_icmp .ge 34, 3) := by decide +kernel
theorem dX0_arrange_12 : decode cX0_arrange 12 = .ok (.aload_n 0, 1) := by decide +kernel
theorem dX0_arrange_13 : decode cX0_arrange 13 = .ok (.getfield 18, 3) := by decide +kernel
theorem dX0_arrange_16 : decode cX0_arrange 16 = .ok (.aload_n 0, 1) := by decide +kernel
theorem dX0_arrange_17 : decode cX0_arrange 17 = .ok (.getfield 9, 3) := by decide +kernel
theorem dX0_arrange_20 : decode cX0_arrange 20 = .ok (.iload 4, 2) := by decide +kernel
theorem dX0_arrange_22 : decode cX0_arrange 22 = .ok (.iaload, 1) := by decide +kernel
theorem dX0_arrange_23 : decode cX0_arrange 23 = .ok (.aload_n 0, 1) := by decide +kernel
theorem dX0_arrange_24 : decode cX0_arrange 24 = .ok (.aload_n 0, 1) := by decide +kernel
theorem dX0_arrange_25 : decode cX0_arrange 25 = .ok (.getfield 9, 3) := by decide +kernel
theorem dX0_arrange_28 : decode cX0_arrange 28 = .ok (.iload 4, 2) := by decide +kernel
theorem dX0_arrange_30 : decode cX0_arrange 30 = .ok (.iaload, 1) := by decide +kernel
theorem dX0_arrange_31 : decode cX0_arrange 31 = .ok (.iload_n 1, 1) := by decide +kernel
theorem dX0_arrange_32 : decode cX0_arrange 32 = .ok (.lload_n 2, 1) := by decide +kernel
theorem dX0_arrange_33 : decode cX0_arrange 33 = .ok (.invokevirtual 49, 3) := by decide +kernel
theorem dX0_arrange_36 : decode cX0_arrange 36 = .ok (.lastore, 1) := by decide +kernel
theorem dX0_arrange_37 : decode cX0_arrange 37 = .ok (.iinc 4 1, 3) := by decide +kernel
theorem dX0_arrange_40 : decode cX0_arrange 40 = .ok (.goto (-37), 3) := by decide +kernel
theorem dX0_arrange_43 : decode cX0_arrange 43 = .ok (.iconst 1, 1) := by decide +kernel
theorem dX0_arrange_44 : decode cX0_arrange 44 = .ok (.istore 4, 2) := by decide +kernel
theorem dX0_arrange_46 : decode cX0_arrange 46 = .ok (.iload 4, 2) := by decide +kernel
theorem dX0_arrange_48 : decode cX0_arrange 48 = .ok (.aload_n 0, 1) := by decide +kernel
theorem dX0_arrange_49 : decode cX0_arrange 49 = .ok (.getfield 29, 3) := by decide +kernel
theorem dX0_arrange_52 : decode cX0_arrange 52 = .ok (.if_icmp .ge 88, 3) := by decide +kernel
theorem dX0_arrange_55 : decode cX0_arrange 55 = .ok (.iconst 0, 1) := by decide +kernel
theorem dX0_arrange_56 : decode cX0_arrange 56 = .ok (.istore 5, 2) := by decide +kernel
theorem dX0_arrange_58 : decode cX0_arrange 58 = .ok (.iload 5, 2) := by decide +kernel
theorem dX0_arrange_60 : decode cX0_arrange 60 = .ok (.aload_n 0, 1) := by decide +kernel
theorem dX0_arrange_61 : decode cX0_arrange 61 = .ok (.getfield 29, 3) := by decide +kernel
theorem dX0_arrange_64 : decode cX0_arrange 64 = .ok (.if_icmp .ge 47, 3) := by decide +kernel
theorem dX0_arrange_67 : decode cX0_arrange 67 = .ok (.aload_n 0, 1) := by decide +kernel
theorem dX0_arrange_68 : decode cX0_arrange 68 = .ok (.iload 5, 2) := by decide +kernel
theorem dX0_arrange_70 : decode cX0_arrange 70 = .ok (.iload 5, 2) := by decide +kernel
theorem dX0_arrange_72 : decode cX0_arrange 72 = .ok (.iload 4, 2) := by decide +kernel
theorem dX0_arrange_74 : decode cX0_arrange 74 = .ok (.iadd, 1) := by decide +kernel
theorem dX0_arrange_75 : decode cX0_arrange 75 = .ok (.aload_n 0, 1) := by decide +kernel
theorem dX0_arrange_76 : decode cX0_arrange 76 = .ok (.getfield 29, 3) := by decide +kernel
theorem dX0_arrange_79 : decode cX0_arrange 79 = .ok (.invokestatic 37, 3) := by decide +kernel
theorem dX0_arrange_82 : decode cX0_arrange 82 = .ok (.iload 5, 2) := by decide +kernel
theorem dX0_arrange_84 : decode cX0_arrange 84 = .ok (.iconst 2, 1) := by decide +kernel
theorem dX0_arrange_85 : decode cX0_arrange 85 = .ok (.iload 4, 2) := by decide +kernel
theorem dX0_arrange_87 : decode cX0_arrange 87 = .ok (.imul, 1) := by decide +kernel
theorem dX0_arrange_88 : decode cX0_arrange 88 = .ok (.iadd, 1) := by decide +kernel
theorem dX0_arrange_89 : decode cX0_arrange 89 = .ok (.aload_n 0, 1) := by decide +kernel
theorem dX0_arrange_90 : decode cX0_arrange 90 = .ok (.getfield 29, 3) := by decide +kernel
theorem dX0_arrange_93 : decode cX0_arrange 93 = .ok (.invokestatic 37, 3) := by decide +kernel
theorem dX0_arrange_96 : decode cX0_arrange 96 = .ok (.invokevirtual 53, 3) := by decide +kernel
theorem dX0_arrange_99 : decode cX0_arrange 99 = .ok (.iload 5, 2) := by decide +kernel
theorem dX0_arrange_101 : decode cX0_arrange 101 = .ok (.iconst 2, 1) := by decide +kernel
theorem dX0_arrange_102 : decode cX0_arrange 102 = .ok (.iload 4, 2) := by decide +kernel
theorem dX0_arrange_104 : decode cX0_arrange 104 = .ok (.imul, 1) := by decide +kernel
theorem dX0_arrange_105 : decode cX0_arrange 105 = .ok (.iadd, 1) := by decide +kernel
theorem dX0_arrange_106 : decode cX0_arrange 106 = .ok (.istore 5, 2) := by decide +kernel
theorem dX0_arrange_108 : decode cX0_arrange 108 = .ok (.goto (-50), 3) := by decide +kernel
theorem dX0_arrange_111 : decode cX0_arrange 111 = .ok (.aload_n 0, 1) := by decide +kernel
theorem dX0_arrange_112 : decode cX0_arrange 112 = .ok (.getfield 15, 3) := by decide +kernel
theorem dX0_arrange_115 : decode cX0_arrange 115 = .ok (.astore 5, 2) := by decide +kernel
theorem dX0_arrange_117 : decode cX0_arrange 117 = .ok (.aload_n 0, 1) := by decide +kernel
theorem dX0_arrange_118 : decode cX0_arrange 118 = .ok (.aload_n 0, 1) := by decide +kernel
theorem dX0_arrange_119 : decode cX0_arrange 119 = .ok (.getfield 9, 3) := by decide +kernel
theorem dX0_arrange_122 : decode cX0_arrange 122 = .ok (.putfield 15, 3) := by decide +kernel
theorem dX0_arrange_125 : decode cX0_arrange 125 = .ok (.aload_n 0, 1) := by decide +kernel
theorem dX0_arrange_126 : decode cX0_arrange 126 = .ok (.aload 5, 2) := by decide +kernel
theorem dX0_arrange_128 : decode cX0_arrange 128 = .ok (.putfield 9, 3) := by decide +kernel
theorem dX0_arrange_131 : decode cX0_arrange 131 = .ok (.iload 4, 2) := by decide +kernel
theorem dX0_arrange_133 : decode cX0_arrange 133 = .ok (.iconst 2, 1) := by decide +kernel
theorem dX0_arrange_134 : decode cX0_arrange 134 = .ok (.imul, 1) := by decide +kernel
theorem dX0_arrange_135 : decode cX0_arrange 135 = .ok (.istore 4, 2) := by decide +kernel
theorem dX0_arrange_137 : decode cX0_arrange 137 = .ok (.goto (-91), 3) := by decide +kernel
theorem dX0_arrange_140 : decode cX0_arrange 140 = .ok (.return_, 1) := by decide +kernel
set_option maxRecDepth 20000 in
theorem ggX0_weigh_X0_mix : GoodIn wsX0_weigh wsX0_mix := goodIn_r _ [9, 10, 11, 12] (by decide +kernel) (by decide +kernel)
set_option maxRecDepth 20000 in
theorem gX0_weigh_X0_mix : GoodIn wsX0_weigh (va_wsS RX0 67 yX0_mix wsX0_mix) := goodIn_app (goodIn_of _ (by decide +kernel)) ggX0_weigh_X0_mix
theorem dX0_weigh_0 : decode cX0_weigh 0 = .ok (.iload_n 2, 1) := by decide +kernel
theorem dX0_weigh_1 : decode cX0_weigh 1 = .ok (.ifCond .ne 13, 3) := by decide +kernel
theorem dX0_weigh_4 : decode cX0_weigh 4 = .ok (.aload_n 0, 1) := by decide +kernel
theorem dX0_weigh_5 : decode cX0_weigh 5 = .ok (.getfield 33, 3) := by decide +kernel
theorem dX0_weigh_8 : decode cX0_weigh 8 = .ok (.getfield 57, 3) := by decide +kernel
theorem dX0_weigh_11 : decode cX0_weigh 11 = .ok (.iload_n 1, 1) := by decide +kernel
theorem dX0_weigh_12 : decode cX0_weigh 12 = .ok (.laload, 1) := by decide +kernel
theorem dX0_weigh_13 : decode cX0_weigh 13 = .ok (.lreturn, 1) := by decide +kernel
theorem dX0_weigh_14 : decode cX0_weigh 14 = .ok (.iload_n 2, 1) := by decide +kernel
theorem dX0_weigh_15 : decode cX0_weigh 15 = .ok (.iconst 1, 1) := by decide +kernel
theorem dX0_weigh_16 : decode cX0_weigh 16 = .ok (.if_icmp .ne 17, 3) := by decide +kernel
theorem dX0_weigh_19 : decode cX0_weigh 19 = .ok (.aload_n 0, 1) := by decide +kernel
theorem dX0_weigh_20 : decode cX0_weigh 20 = .ok (.getfield 33, 3) := by decide +kernel
theorem dX0_weigh_23 : decode cX0_weigh 23 = .ok (.getfield 57, 3) := by decide +kernel
theorem dX0_weigh_26 : decode cX0_weigh 26 = .ok (.iload_n 1, 1) := by decide +kernel
theorem dX0_weigh_27 : decode cX0_weigh 27 = .ok (.laload, 1) := by decide +kernel
theorem dX0_weigh_28 : decode cX0_weigh 28 = .ok (.ldc2_w 62, 3) := by decide +kernel
theorem dX0_weigh_31 : decode cX0_weigh 31 = .ok (.lxor, 1) := by decide +kernel
theorem dX0_weigh_32 : decode cX0_weigh 32 = .ok (.lreturn, 1) := by decide +kernel
theorem dX0_weigh_33 : decode cX0_weigh 33 = .ok (.aload_n 0, 1) := by decide +kernel
theorem dX0_weigh_34 : decode cX0_weigh 34 = .ok (.getfield 33, 3) := by decide +kernel
theorem dX0_weigh_37 : decode cX0_weigh 37 = .ok (.getfield 64, 3) := by decide +kernel
theorem dX0_weigh_40 : decode cX0_weigh 40 = .ok (.iload_n 1, 1) := by decide +kernel
theorem dX0_weigh_41 : decode cX0_weigh 41 = .ok (.laload, 1) := by decide +kernel
theorem dX0_weigh_42 : decode cX0_weigh 42 = .ok (.lload_n 3, 1) := by decide +kernel
theorem dX0_weigh_43 : decode cX0_weigh 43 = .ok (.invokestatic 67, 3) := by decide +kernel
theorem dX0_weigh_46 : decode cX0_weigh 46 = .ok (.ldc2_w 71, 3) := by decide +kernel
theorem dX0_weigh_49 : decode cX0_weigh 49 = .ok (.lxor, 1) := by decide +kernel
theorem dX0_weigh_50 : decode cX0_weigh 50 = .ok (.lreturn, 1) := by decide +kernel
theorem dX0_mix_0 : decode cX0_mix 0 = .ok (.lload_n 0, 1) := by decide +kernel
theorem dX0_mix_1 : decode cX0_mix 1 = .ok (.lload_n 2, 1) := by decide +kernel
theorem dX0_mix_2 : decode cX0_mix 2 = .ok (.ldc2_w 73, 3) := by decide +kernel
theorem dX0_mix_5 : decode cX0_mix 5 = .ok (.lmul, 1) := by decide +kernel
theorem dX0_mix_6 : decode cX0_mix 6 = .ok (.lxor, 1) := by decide +kernel
theorem dX0_mix_7 : decode cX0_mix 7 = .ok (.lstore 4, 2) := by decide +kernel
theorem dX0_mix_9 : decode cX0_mix 9 = .ok (.lload 4, 2) := by decide +kernel
theorem dX0_mix_11 : decode cX0_mix 11 = .ok (.lload 4, 2) := by decide +kernel
theorem dX0_mix_13 : decode cX0_mix 13 = .ok (.bipush 30, 2) := by decide +kernel
theorem dX0_mix_15 : decode cX0_mix 15 = .ok (.lushr, 1) := by decide +kernel
theorem dX0_mix_16 : decode cX0_mix 16 = .ok (.lxor, 1) := by decide +kernel
theorem dX0_mix_17 : decode cX0_mix 17 = .ok (.ldc2_w 75, 3) := by decide +kernel
theorem dX0_mix_20 : decode cX0_mix 20 = .ok (.lmul, 1) := by decide +kernel
theorem dX0_mix_21 : decode cX0_mix 21 = .ok (.lstore 4, 2) := by decide +kernel
theorem dX0_mix_23 : decode cX0_mix 23 = .ok (.lload 4, 2) := by decide +kernel
theorem dX0_mix_25 : decode cX0_mix 25 = .ok (.lload 4, 2) := by decide +kernel
theorem dX0_mix_27 : decode cX0_mix 27 = .ok (.bipush 27, 2) := by decide +kernel
theorem dX0_mix_29 : decode cX0_mix 29 = .ok (.lushr, 1) := by decide +kernel
theorem dX0_mix_30 : decode cX0_mix 30 = .ok (.lxor, 1) := by decide +kernel
theorem dX0_mix_31 : decode cX0_mix 31 = .ok (.ldc2_w 77, 3) := by decide +kernel
theorem dX0_mix_34 : decode cX0_mix 34 = .ok (.lmul, 1) := by decide +kernel
theorem dX0_mix_35 : decode cX0_mix 35 = .ok (.lstore 4, 2) := by decide +kernel
theorem dX0_mix_37 : decode cX0_mix 37 = .ok (.lload 4, 2) := by decide +kernel
theorem dX0_mix_39 : decode cX0_mix 39 = .ok (.lload 4, 2) := by decide +kernel
theorem dX0_mix_41 : decode cX0_mix 41 = .ok (.bipush 31, 2) := by decide +kernel
theorem dX0_mix_43 : decode cX0_mix 43 = .ok (.lushr, 1) := by decide +kernel
theorem dX0_mix_44 : decode cX0_mix 44 = .ok (.lxor, 1) := by decide +kernel
theorem dX0_mix_45 : decode cX0_mix 45 = .ok (.lreturn, 1) := by decide +kernel
set_option maxRecDepth 20000 in
theorem ggX0_mergeRuns_X0_comesBefore : GoodIn wsX0_mergeRuns wsX0_comesBefore := goodIn_r _ [7, 8, 9, 10, 11, 12, 13, 14, 15, 16, 17, 18, 19, 20, 21, 22, 23, 24, 25] (by decide +kernel) (by decide +kernel)
set_option maxRecDepth 20000 in
theorem gX0_mergeRuns_X0_comesBefore : GoodIn wsX0_mergeRuns (wsV RX0 79 RX0 yX0_comesBefore wsX0_comesBefore) := goodIn_app (goodIn_of _ (by decide +kernel)) ggX0_mergeRuns_X0_comesBefore
theorem dX0_mergeRuns_0 : decode cX0_mergeRuns 0 = .ok (.iload_n 1, 1) := by decide +kernel
theorem dX0_mergeRuns_1 : decode cX0_mergeRuns 1 = .ok (.istore 4, 2) := by decide +kernel
theorem dX0_mergeRuns_3 : decode cX0_mergeRuns 3 = .ok (.iload_n 2, 1) := by decide +kernel
theorem dX0_mergeRuns_4 : decode cX0_mergeRuns 4 = .ok (.istore 5, 2) := by decide +kernel
theorem dX0_mergeRuns_6 : decode cX0_mergeRuns 6 = .ok (.iload_n 1, 1) := by decide +kernel
theorem dX0_mergeRuns_7 : decode cX0_mergeRuns 7 = .ok (.istore 6, 2) := by decide +kernel
theorem dX0_mergeRuns_9 : decode cX0_mergeRuns 9 = .ok (.iload 6, 2) := by decide +kernel
theorem dX0_mergeRuns_11 : decode cX0_mergeRuns 11 = .ok (.iload_n 3, 1) := by decide +kernel
theorem dX0_mergeRuns_12 : decode cX0_mergeRuns 12 = .ok (.if_icmp .ge 79, 3) := by decide +kernel
theorem dX0_mergeRuns_15 : decode cX0_mergeRuns 15 = .ok (.iload 5, 2) := by decide +kernel
theorem dX0_mergeRuns_17 : decode cX0_mergeRuns 17 = .ok (.iload_n 3, 1) := by decide +kernel
theorem dX0_mergeRuns_18 : decode cX0_mergeRuns 18 = .ok (.if_icmp .ge 30, 3) := by decide +kernel
theorem dX0_mergeRuns_21 : decode cX0_mergeRuns 21 = .ok (.iload 4, 2) := by decide +kernel
theorem dX0_mergeRuns_23 : decode cX0_mergeRuns 23 = .ok (.iload_n 2, 1) := by decide +kernel
theorem dX0_mergeRuns_24 : decode cX0_mergeRuns 24 = .ok (.if_icmp .ge 44, 3) := by decide +kernel
theorem dX0_mergeRuns_27 : decode cX0_mergeRuns 27 = .ok (.aload_n 0, 1) := by decide +kernel
theorem dX0_mergeRuns_28 : decode cX0_mergeRuns 28 = .ok (.aload_n 0, 1) := by decide +kernel
theorem dX0_mergeRuns_29 : decode cX0_mergeRuns 29 = .ok (.getfield 9, 3) := by decide +kernel
theorem dX0_mergeRuns_32 : decode cX0_mergeRuns 32 = .ok (.iload 4, 2) := by decide +kernel
theorem dX0_mergeRuns_34 : decode cX0_mergeRuns 34 = .ok (.iaload, 1) := by decide +kernel
theorem dX0_mergeRuns_35 : decode cX0_mergeRuns 35 = .ok (.aload_n 0, 1) := by decide +kernel
theorem dX0_mergeRuns_36 : decode cX0_mergeRuns 36 = .ok (.getfield 9, 3) := by decide +kernel
theorem dX0_mergeRuns_39 : decode cX0_mergeRuns 39 = .ok (.iload 5, 2) := by decide +kernel
theorem dX0_mergeRuns_41 : decode cX0_mergeRuns 41 = .ok (.iaload, 1) := by decide +kernel
theorem dX0_mergeRuns_42 : decode cX0_mergeRuns 42 = .ok (.invokevirtual 79, 3) := by decide +kernel
theorem dX0_mergeRuns_45 : decode cX0_mergeRuns 45 = .ok (.ifCond .eq 23, 3) := by decide +kernel
theorem dX0_mergeRuns_48 : decode cX0_mergeRuns 48 = .ok (.aload_n 0, 1) := by decide +kernel
theorem dX0_mergeRuns_49 : decode cX0_mergeRuns 49 = .ok (.getfield 15, 3) := by decide +kernel
theorem dX0_mergeRuns_52 : decode cX0_mergeRuns 52 = .ok (.iload 6, 2) := by decide +kernel
theorem dX0_mergeRuns_54 : decode cX0_mergeRuns 54 = .ok (.aload_n 0, 1) := by decide +kernel
theorem dX0_mergeRuns_55 : decode cX0_mergeRuns 55 = .ok (.getfield 9, 3) := by decide +kernel
theorem dX0_mergeRuns_58 : decode cX0_mergeRuns 58 = .ok (.iload 4, 2) := by decide +kernel
theorem dX0_mergeRuns_60 : decode cX0_mergeRuns 60 = .ok (.iaload, 1) := by decide +kernel
theorem dX0_mergeRuns_61 : decode cX0_mergeRuns 61 = .ok (.iastore, 1) := by decide +kernel
theorem dX0_mergeRuns_62 : decode cX0_mergeRuns 62 = .ok (.iinc 4 1, 3) := by decide +kernel
theorem dX0_mergeRuns_65 : decode cX0_mergeRuns 65 = .ok (.goto 20, 3) := by decide +kernel
theorem dX0_mergeRuns_68 : decode cX0_mergeRuns 68 = .ok (.aload_n 0, 1) := by decide +kernel
theorem dX0_mergeRuns_69 : decode cX0_mergeRuns 69 = .ok (.getfield 15, 3) := by decide +kernel
theorem dX0_mergeRuns_72 : decode cX0_mergeRuns 72 = .ok (.iload 6, 2) := by decide +kernel
theorem dX0_mergeRuns_74 : decode cX0_mergeRuns 74 = .ok (.aload_n 0, 1) := by decide +kernel
theorem dX0_mergeRuns_75 : decode cX0_mergeRuns 75 = .ok (.getfield 9, 3) := by decide +kernel
theorem dX0_mergeRuns_78 : decode cX0_mergeRuns 78 = .ok (.iload 5, 2) := by decide +kernel
theorem dX0_mergeRuns_80 : decode cX0_mergeRuns 80 = .ok (.iaload, 1) := by decide +kernel
theorem dX0_mergeRuns_81 : decode cX0_mergeRuns 81 = .ok (.iastore, 1) := by decide +kernel
theorem dX0_mergeRuns_82 : decode cX0_mergeRuns 82 = .ok (.iinc 5 1, 3) := by decide +kernel
theorem dX0_mergeRuns_85 : decode cX0_mergeRuns 85 = .ok (.iinc 6 1, 3) := by decide +kernel
theorem dX0_mergeRuns_88 : decode cX0_mergeRuns 88 = .ok (.goto (-79), 3) := by decide +kernel
theorem dX0_mergeRuns_91 : decode cX0_mergeRuns 91 = .ok (.return_, 1) := by decide +kernel
theorem dX0_comesBefore_0 : decode cX0_comesBefore 0 = .ok (.aload_n 0, 1) := by decide +kernel
theorem dX0_comesBefore_1 : decode cX0_comesBefore 1 = .ok (.getfield 18, 3) := by decide +kernel
theorem dX0_comesBefore_4 : decode cX0_comesBefore 4 = .ok (.iload_n 1, 1) := by decide +kernel
theorem dX0_comesBefore_5 : decode cX0_comesBefore 5 = .ok (.laload, 1) := by decide +kernel
theorem dX0_comesBefore_6 : decode cX0_comesBefore 6 = .ok (.aload_n 0, 1) := by decide +kernel
theorem dX0_comesBefore_7 : decode cX0_comesBefore 7 = .ok (.getfield 18, 3) := by decide +kernel
theorem dX0_comesBefore_10 : decode cX0_comesBefore 10 = .ok (.iload_n 2, 1) := by decide +kernel
theorem dX0_comesBefore_11 : decode cX0_comesBefore 11 = .ok (.laload, 1) := by decide +kernel
theorem dX0_comesBefore_12 : decode cX0_comesBefore 12 = .ok (.lcmp, 1) := by decide +kernel
theorem dX0_comesBefore_13 : decode cX0_comesBefore 13 = .ok (.ifCond .eq 25, 3) := by decide +kernel
theorem dX0_comesBefore_16 : decode cX0_comesBefore 16 = .ok (.aload_n 0, 1) := by decide +kernel
theorem dX0_comesBefore_17 : decode cX0_comesBefore 17 = .ok (.getfield 18, 3) := by decide +kernel
theorem dX0_comesBefore_20 : decode cX0_comesBefore 20 = .ok (.iload_n 1, 1) := by decide +kernel
theorem dX0_comesBefore_21 : decode cX0_comesBefore 21 = .ok (.laload, 1) := by decide +kernel
theorem dX0_comesBefore_22 : decode cX0_comesBefore 22 = .ok (.aload_n 0, 1) := by decide +kernel
theorem dX0_comesBefore_23 : decode cX0_comesBefore 23 = .ok (.getfield 18, 3) := by decide +kernel
theorem dX0_comesBefore_26 : decode cX0_comesBefore 26 = .ok (.iload_n 2, 1) := by decide +kernel
theorem dX0_comesBefore_27 : decode cX0_comesBefore 27 = .ok (.laload, 1) := by decide +kernel
theorem dX0_comesBefore_28 : decode cX0_comesBefore 28 = .ok (.lcmp, 1) := by decide +kernel
theorem dX0_comesBefore_29 : decode cX0_comesBefore 29 = .ok (.ifCond .ge 7, 3) := by decide +kernel
theorem dX0_comesBefore_32 : decode cX0_comesBefore 32 = .ok (.iconst 1, 1) := by decide +kernel
theorem dX0_comesBefore_33 : decode cX0_comesBefore 33 = .ok (.goto 4, 3) := by decide +kernel
theorem dX0_comesBefore_36 : decode cX0_comesBefore 36 = .ok (.iconst 0, 1) := by decide +kernel
theorem dX0_comesBefore_37 : decode cX0_comesBefore 37 = .ok (.ireturn, 1) := by decide +kernel
theorem dX0_comesBefore_38 : decode cX0_comesBefore 38 = .ok (.aload_n 0, 1) := by decide +kernel
theorem dX0_comesBefore_39 : decode cX0_comesBefore 39 = .ok (.getfield 33, 3) := by decide +kernel
theorem dX0_comesBefore_42 : decode cX0_comesBefore 42 = .ok (.getfield 64, 3) := by decide +kernel
theorem dX0_comesBefore_45 : decode cX0_comesBefore 45 = .ok (.iload_n 1, 1) := by decide +kernel
theorem dX0_comesBefore_46 : decode cX0_comesBefore 46 = .ok (.laload, 1) := by decide +kernel
theorem dX0_comesBefore_47 : decode cX0_comesBefore 47 = .ok (.aload_n 0, 1) := by decide +kernel
theorem dX0_comesBefore_48 : decode cX0_comesBefore 48 = .ok (.getfield 33, 3) := by decide +kernel
theorem dX0_comesBefore_51 : decode cX0_comesBefore 51 = .ok (.getfield 64, 3) := by decide +kernel
theorem dX0_comesBefore_54 : decode cX0_comesBefore 54 = .ok (.iload_n 2, 1) := by decide +kernel
theorem dX0_comesBefore_55 : decode cX0_comesBefore 55 = .ok (.laload, 1) := by decide +kernel
theorem dX0_comesBefore_56 : decode cX0_comesBefore 56 = .ok (.lcmp, 1) := by decide +kernel
theorem dX0_comesBefore_57 : decode cX0_comesBefore 57 = .ok (.ifCond .eq 31, 3) := by decide +kernel
theorem dX0_comesBefore_60 : decode cX0_comesBefore 60 = .ok (.aload_n 0, 1) := by decide +kernel
theorem dX0_comesBefore_61 : decode cX0_comesBefore 61 = .ok (.getfield 33, 3) := by decide +kernel
theorem dX0_comesBefore_64 : decode cX0_comesBefore 64 = .ok (.getfield 64, 3) := by decide +kernel
theorem dX0_comesBefore_67 : decode cX0_comesBefore 67 = .ok (.iload_n 1, 1) := by decide +kernel
theorem dX0_comesBefore_68 : decode cX0_comesBefore 68 = .ok (.laload, 1) := by decide +kernel
theorem dX0_comesBefore_69 : decode cX0_comesBefore 69 = .ok (.aload_n 0, 1) := by decide +kernel
theorem dX0_comesBefore_70 : decode cX0_comesBefore 70 = .ok (.getfield 33, 3) := by decide +kernel
theorem dX0_comesBefore_73 : decode cX0_comesBefore 73 = .ok (.getfield 64, 3) := by decide +kernel
theorem dX0_comesBefore_76 : decode cX0_comesBefore 76 = .ok (.iload_n 2, 1) := by decide +kernel
theorem dX0_comesBefore_77 : decode cX0_comesBefore 77 = .ok (.laload, 1) := by decide +kernel
theorem dX0_comesBefore_78 : decode cX0_comesBefore 78 = .ok (.lcmp, 1) := by decide +kernel
theorem dX0_comesBefore_79 : decode cX0_comesBefore 79 = .ok (.ifCond .ge 7, 3) := by decide +kernel
theorem dX0_comesBefore_82 : decode cX0_comesBefore 82 = .ok (.iconst 1, 1) := by decide +kernel
theorem dX0_comesBefore_83 : decode cX0_comesBefore 83 = .ok (.goto 4, 3) := by decide +kernel
theorem dX0_comesBefore_86 : decode cX0_comesBefore 86 = .ok (.iconst 0, 1) := by decide +kernel
theorem dX0_comesBefore_87 : decode cX0_comesBefore 87 = .ok (.ireturn, 1) := by decide +kernel
theorem dX0_comesBefore_88 : decode cX0_comesBefore 88 = .ok (.iload_n 1, 1) := by decide +kernel
theorem dX0_comesBefore_89 : decode cX0_comesBefore 89 = .ok (.iload_n 2, 1) := by decide +kernel
theorem dX0_comesBefore_90 : decode cX0_comesBefore 90 = .ok (.if_icmp .ge 7, 3) := by decide +kernel
theorem dX0_comesBefore_93 : decode cX0_comesBefore 93 = .ok (.iconst 1, 1) := by decide +kernel
theorem dX0_comesBefore_94 : decode cX0_comesBefore 94 = .ok (.goto 4, 3) := by decide +kernel
theorem dX0_comesBefore_97 : decode cX0_comesBefore 97 = .ok (.iconst 0, 1) := by decide +kernel
theorem dX0_comesBefore_98 : decode cX0_comesBefore 98 = .ok (.ireturn, 1) := by decide +kernel
theorem dX0_memberAt_0 : decode cX0_memberAt 0 = .ok (.iload_n 1, 1) := by decide +kernel
theorem dX0_memberAt_1 : decode cX0_memberAt 1 = .ok (.ifCond .lt 11, 3) := by decide +kernel
theorem dX0_memberAt_4 : decode cX0_memberAt 4 = .ok (.iload_n 1, 1) := by decide +kernel
theorem dX0_memberAt_5 : decode cX0_memberAt 5 = .ok (.aload_n 0, 1) := by decide +kernel
theorem dX0_memberAt_6 : decode cX0_memberAt 6 = .ok (.getfield 29, 3) := by decide +kernel
theorem dX0_memberAt_9 : decode cX0_memberAt 9 = .ok (.if_icmp .lt 13, 3) := by decide +kernel
theorem dX0_memberAt_12 : decode cX0_memberAt 12 = .ok (.new 83, 3) := by decide +kernel
theorem dX0_memberAt_15 : decode cX0_memberAt 15 = .ok (.dup, 1) := by decide +kernel
theorem dX0_memberAt_16 : decode cX0_memberAt 16 = .ok (.ldc 85, 2) := by decide +kernel
theorem dX0_memberAt_18 : decode cX0_memberAt 18 = .ok (.invokespecial 87, 3) := by decide +kernel
theorem dX0_memberAt_21 : decode cX0_memberAt 21 = .ok (.athrow, 1) := by decide +kernel
theorem dX0_memberAt_22 : decode cX0_memberAt 22 = .ok (.aload_n 0, 1) := by decide +kernel
theorem dX0_memberAt_23 : decode cX0_memberAt 23 = .ok (.getfield 9, 3) := by decide +kernel
theorem dX0_memberAt_26 : decode cX0_memberAt 26 = .ok (.iload_n 1, 1) := by decide +kernel
theorem dX0_memberAt_27 : decode cX0_memberAt 27 = .ok (.iaload, 1) := by decide +kernel
theorem dX0_memberAt_28 : decode cX0_memberAt 28 = .ok (.ireturn, 1) := by decide +kernel
theorem dX0_find_0 : decode cX0_find 0 = .ok (.iconst 0, 1) := by decide +kernel
theorem dX0_find_1 : decode cX0_find 1 = .ok (.istore_n 2, 1) := by decide +kernel
theorem dX0_find_2 : decode cX0_find 2 = .ok (.iload_n 2, 1) := by decide +kernel
theorem dX0_find_3 : decode cX0_find 3 = .ok (.aload_n 0, 1) := by decide +kernel
theorem dX0_find_4 : decode cX0_find 4 = .ok (.getfield 29, 3) := by decide +kernel
theorem dX0_find_7 : decode cX0_find 7 = .ok (.if_icmp .ge 21, 3) := by decide +kernel
theorem dX0_find_10 : decode cX0_find 10 = .ok (.aload_n 0, 1) := by decide +kernel
theorem dX0_find_11 : decode cX0_find 11 = .ok (.getfield 9, 3) := by decide +kernel
theorem dX0_find_14 : decode cX0_find 14 = .ok (.iload_n 2, 1) := by decide +kernel
theorem dX0_find_15 : decode cX0_find 15 = .ok (.iaload, 1) := by decide +kernel
theorem dX0_find_16 : decode cX0_find 16 = .ok (.iload_n 1, 1) := by decide +kernel
theorem dX0_find_17 : decode cX0_find 17 = .ok (.if_icmp .ne 5, 3) := by decide +kernel
theorem dX0_find_20 : decode cX0_find 20 = .ok (.iload_n 2, 1) := by decide +kernel
theorem dX0_find_21 : decode cX0_find 21 = .ok (.ireturn, 1) := by decide +kernel
theorem dX0_find_22 : decode cX0_find 22 = .ok (.iinc 2 1, 3) := by decide +kernel
theorem dX0_find_25 : decode cX0_find 25 = .ok (.goto (-23), 3) := by decide +kernel
theorem dX0_find_28 : decode cX0_find 28 = .ok (.iconst (-1), 1) := by decide +kernel
theorem dX0_find_29 : decode cX0_find 29 = .ok (.ireturn, 1) := by decide +kernel
set_option maxRecDepth 20000 in
theorem ggX0_copyRow_J7_copyOf_59c91 : GoodIn wsX0_copyRow wsJ7_copyOf_59c91 := goodIn_r _ [6, 7, 8, 9, 10, 11, 12, 13, 14, 15, 16, 17, 18, 19, 20, 21] (by decide +kernel) (by decide +kernel)
set_option maxRecDepth 20000 in
theorem gX0_copyRow_J7_copyOf_59c91 : GoodIn wsX0_copyRow (va_wsS RX0 90 yJ7_copyOf_59c91 wsJ7_copyOf_59c91) := goodIn_app (goodIn_of _ (by decide +kernel)) ggX0_copyRow_J7_copyOf_59c91
theorem dX0_copyRow_0 : decode cX0_copyRow 0 = .ok (.aload_n 0, 1) := by decide +kernel
theorem dX0_copyRow_1 : decode cX0_copyRow 1 = .ok (.getfield 9, 3) := by decide +kernel
theorem dX0_copyRow_4 : decode cX0_copyRow 4 = .ok (.aload_n 0, 1) := by decide +kernel
theorem dX0_copyRow_5 : decode cX0_copyRow 5 = .ok (.getfield 29, 3) := by decide +kernel
theorem dX0_copyRow_8 : decode cX0_copyRow 8 = .ok (.invokestatic 90, 3) := by decide +kernel
theorem dX0_copyRow_11 : decode cX0_copyRow 11 = .ok (.areturn, 1) := by decide +kernel
theorem dX0_listGroups_0 : decode cX0_listGroups 0 = .ok (.iconst 0, 1) := by decide +kernel
theorem dX0_listGroups_1 : decode cX0_listGroups 1 = .ok (.istore_n 1, 1) := by decide +kernel
theorem dX0_listGroups_2 : decode cX0_listGroups 2 = .ok (.iload_n 1, 1) := by decide +kernel
theorem dX0_listGroups_3 : decode cX0_listGroups 3 = .ok (.aload_n 0, 1) := by decide +kernel
theorem dX0_listGroups_4 : decode cX0_listGroups 4 = .ok (.getfield 29, 3) := by decide +kernel
theorem dX0_listGroups_7 : decode cX0_listGroups 7 = .ok (.if_icmp .ge 29, 3) := by decide +kernel
theorem dX0_listGroups_10 : decode cX0_listGroups 10 = .ok (.aload_n 0, 1) := by decide +kernel
theorem dX0_listGroups_11 : decode cX0_listGroups 11 = .ok (.getfield 22, 3) := by decide +kernel
theorem dX0_listGroups_14 : decode cX0_listGroups 14 = .ok (.aload_n 0, 1) := by decide +kernel
theorem dX0_listGroups_15 : decode cX0_listGroups 15 = .ok (.getfield 33, 3) := by decide +kernel
theorem dX0_listGroups_18 : decode cX0_listGroups 18 = .ok (.getfield 96, 3) := by decide +kernel
theorem dX0_listGroups_21 : decode cX0_listGroups 21 = .ok (.aload_n 0, 1) := by decide +kernel
theorem dX0_listGroups_22 : decode cX0_listGroups 22 = .ok (.getfield 9, 3) := by decide +kernel
theorem dX0_listGroups_25 : decode cX0_listGroups 25 = .ok (.iload_n 1, 1) := by decide +kernel
theorem dX0_listGroups_26 : decode cX0_listGroups 26 = .ok (.iaload, 1) := by decide +kernel
theorem dX0_listGroups_27 : decode cX0_listGroups 27 = .ok (.iaload, 1) := by decide +kernel
theorem dX0_listGroups_28 : decode cX0_listGroups 28 = .ok (.iconst 0, 1) := by decide +kernel
theorem dX0_listGroups_29 : decode cX0_listGroups 29 = .ok (.bastore, 1) := by decide +kernel
theorem dX0_listGroups_30 : decode cX0_listGroups 30 = .ok (.iinc 1 1, 3) := by decide +kernel
theorem dX0_listGroups_33 : decode cX0_listGroups 33 = .ok (.goto (-31), 3) := by decide +kernel
theorem dX0_listGroups_36 : decode cX0_listGroups 36 = .ok (.iconst 0, 1) := by decide +kernel
theorem dX0_listGroups_37 : decode cX0_listGroups 37 = .ok (.istore_n 1, 1) := by decide +kernel
theorem dX0_listGroups_38 : decode cX0_listGroups 38 = .ok (.iconst 0, 1) := by decide +kernel
theorem dX0_listGroups_39 : decode cX0_listGroups 39 = .ok (.istore_n 2, 1) := by decide +kernel
theorem dX0_listGroups_40 : decode cX0_listGroups 40 = .ok (.iload_n 2, 1) := by decide +kernel
theorem dX0_listGroups_41 : decode cX0_listGroups 41 = .ok (.aload_n 0, 1) := by decide +kernel
theorem dX0_listGroups_42 : decode cX0_listGroups 42 = .ok (.getfield 29, 3) := by decide +kernel
theorem dX0_listGroups_45 : decode cX0_listGroups 45 = .ok (.if_icmp .ge 50, 3) := by decide +kernel
theorem dX0_listGroups_48 : decode cX0_listGroups 48 = .ok (.aload_n 0, 1) := by decide +kernel
theorem dX0_listGroups_49 : decode cX0_listGroups 49 = .ok (.getfield 33, 3) := by decide +kernel
theorem dX0_listGroups_52 : decode cX0_listGroups 52 = .ok (.getfield 96, 3) := by decide +kernel
theorem dX0_listGroups_55 : decode cX0_listGroups 55 = .ok (.aload_n 0, 1) := by decide +kernel
theorem dX0_listGroups_56 : decode cX0_listGroups 56 = .ok (.getfield 9, 3) := by decide +kernel
theorem dX0_listGroups_59 : decode cX0_listGroups 59 = .ok (.iload_n 2, 1) := by decide +kernel
theorem dX0_listGroups_60 : decode cX0_listGroups 60 = .ok (.iaload, 1) := by decide +kernel
theorem dX0_listGroups_61 : decode cX0_listGroups 61 = .ok (.iaload, 1) := by decide +kernel
theorem dX0_listGroups_62 : decode cX0_listGroups 62 = .ok (.istore_n 3, 1) := by decide +kernel
theorem dX0_listGroups_63 : decode cX0_listGroups 63 = .ok (.aload_n 0, 1) := by decide +kernel
theorem dX0_listGroups_64 : decode cX0_listGroups 64 = .ok (.getfield 22, 3) := by decide +kernel
theorem dX0_listGroups_67 : decode cX0_listGroups 67 = .ok (.iload_n 3, 1) := by decide +kernel
theorem dX0_listGroups_68 : decode cX0_listGroups 68 = .ok (.baload, 1) := by decide +kernel
theorem dX0_listGroups_69 : decode cX0_listGroups 69 = .ok (.ifCond .ne 20, 3) := by decide +kernel
theorem dX0_listGroups_72 : decode cX0_listGroups 72 = .ok (.aload_n 0, 1) := by decide +kernel
theorem dX0_listGroups_73 : decode cX0_listGroups 73 = .ok (.getfield 22, 3) := by decide +kernel
theorem dX0_listGroups_76 : decode cX0_listGroups 76 = .ok (.iload_n 3, 1) := by decide +kernel
theorem dX0_listGroups_77 : decode cX0_listGroups 77 = .ok (.iconst 1, 1) := by decide +kernel
theorem dX0_listGroups_78 : decode cX0_listGroups 78 = .ok (.bastore, 1) := by decide +kernel
theorem dX0_listGroups_79 : decode cX0_listGroups 79 = .ok (.aload_n 0, 1) := by decide +kernel
theorem dX0_listGroups_80 : decode cX0_listGroups 80 = .ok (.getfield 26, 3) := by decide +kernel
theorem dX0_listGroups_83 : decode cX0_listGroups 83 = .ok (.iload_n 1, 1) := by decide +kernel
theorem dX0_listGroups_84 : decode cX0_listGroups 84 = .ok (.iload_n 3, 1) := by decide +kernel
theorem dX0_listGroups_85 : decode cX0_listGroups 85 = .ok (.iastore, 1) := by decide +kernel
theorem dX0_listGroups_86 : decode cX0_listGroups 86 = .ok (.iinc 1 1, 3) := by decide +kernel
theorem dX0_listGroups_89 : decode cX0_listGroups 89 = .ok (.iinc 2 1, 3) := by decide +kernel
theorem dX0_listGroups_92 : decode cX0_listGroups 92 = .ok (.goto (-52), 3) := by decide +kernel
theorem dX0_listGroups_95 : decode cX0_listGroups 95 = .ok (.iload_n 1, 1) := by decide +kernel
theorem dX0_listGroups_96 : decode cX0_listGroups 96 = .ok (.ireturn, 1) := by decide +kernel
set_option maxRecDepth 20000 in
theorem ggX0_narrowToGroup_X0_listGroups : GoodIn wsX0_narrowToGroup wsX0_listGroups := goodIn_r _ [10, 2, 11, 3, 4, 5, 1, 12, 13, 14, 15, 16, 17, 18, 19, 20, 21, 22, 23, 24, 25, 26] (by decide +kernel) (by decide +kernel)
set_option maxRecDepth 20000 in
theorem gX0_narrowToGroup_X0_listGroups : GoodIn wsX0_narrowToGroup (wsV RX0 99 RX0 yX0_listGroups wsX0_listGroups) := goodIn_app (goodIn_of _ (by decide +kernel)) ggX0_narrowToGroup_X0_listGroups
theorem dX0_narrowToGroup_0 : decode cX0_narrowToGroup 0 = .ok (.iload_n 1, 1) := by decide +kernel
theorem dX0_narrowToGroup_1 : decode cX0_narrowToGroup 1 = .ok (.ifCond .lt 20, 3) := by decide +kernel
theorem dX0_narrowToGroup_4 : decode cX0_narrowToGroup 4 = .ok (.iload_n 1, 1) := by decide +kernel
theorem dX0_narrowToGroup_5 : decode cX0_narrowToGroup 5 = .ok (.aload_n 0, 1) := by decide +kernel
theorem dX0_narrowToGroup_6 : decode cX0_narrowToGroup 6 = .ok (.invokevirtual 99, 3) := by decide +kernel
theorem dX0_narrowToGroup_9 : decode cX0_narrowToGroup 9 = .ok (.if_icmp .ge 12, 3) := by decide +kernel
theorem dX0_narrowToGroup_12 : decode cX0_narrowToGroup 12 = .ok (.aload_n 0, 1) := by decide +kernel
theorem dX0_narrowToGroup_13 : decode cX0_narrowToGroup 13 = .ok (.getfield 26, 3) := by decide +kernel
theorem dX0_narrowToGroup_16 : decode cX0_narrowToGroup 16 = .ok (.iload_n 1, 1) := by decide +kernel
theorem dX0_narrowToGroup_17 : decode cX0_narrowToGroup 17 = .ok (.iaload, 1) := by decide +kernel
theorem dX0_narrowToGroup_18 : decode cX0_narrowToGroup 18 = .ok (.goto 4, 3) := by decide +kernel
theorem dX0_narrowToGroup_21 : decode cX0_narrowToGroup 21 = .ok (.iconst (-1), 1) := by decide +kernel
theorem dX0_narrowToGroup_22 : decode cX0_narrowToGroup 22 = .ok (.istore_n 2, 1) := by decide +kernel
theorem dX0_narrowToGroup_23 : decode cX0_narrowToGroup 23 = .ok (.iconst 0, 1) := by decide +kernel
theorem dX0_narrowToGroup_24 : decode cX0_narrowToGroup 24 = .ok (.istore_n 3, 1) := by decide +kernel
theorem dX0_narrowToGroup_25 : decode cX0_narrowToGroup 25 = .ok (.iconst 0, 1) := by decide +kernel
theorem dX0_narrowToGroup_26 : decode cX0_narrowToGroup 26 = .ok (.istore 4, 2) := by decide +kernel
theorem dX0_narrowToGroup_28 : decode cX0_narrowToGroup 28 = .ok (.iload 4, 2) := by decide +kernel
theorem dX0_narrowToGroup_30 : decode cX0_narrowToGroup 30 = .ok (.aload_n 0, 1) := by decide +kernel
theorem dX0_narrowToGroup_31 : decode cX0_narrowToGroup 31 = .ok (.getfield 29, 3) := by decide +kernel
theorem dX0_narrowToGroup_34 : decode cX0_narrowToGroup 34 = .ok (.if_icmp .ge 44, 3) := by decide +kernel
theorem dX0_narrowToGroup_37 : decode cX0_narrowToGroup 37 = .ok (.aload_n 0, 1) := by decide +kernel
theorem dX0_narrowToGroup_38 : decode cX0_narrowToGroup 38 = .ok (.getfield 33, 3) := by decide +kernel
theorem dX0_narrowToGroup_41 : decode cX0_narrowToGroup 41 = .ok (.getfield 96, 3) := by decide +kernel
theorem dX0_narrowToGroup_44 : decode cX0_narrowToGroup 44 = .ok (.aload_n 0, 1) := by decide +kernel
theorem dX0_narrowToGroup_45 : decode cX0_narrowToGroup 45 = .ok (.getfield 9, 3) := by decide +kernel
theorem dX0_narrowToGroup_48 : decode cX0_narrowToGroup 48 = .ok (.iload 4, 2) := by decide +kernel
theorem dX0_narrowToGroup_50 : decode cX0_narrowToGroup 50 = .ok (.iaload, 1) := by decide +kernel
theorem dX0_narrowToGroup_51 : decode cX0_narrowToGroup 51 = .ok (.iaload, 1) := by decide +kernel
theorem dX0_narrowToGroup_52 : decode cX0_narrowToGroup 52 = .ok (.iload_n 2, 1) := by decide +kernel
theorem dX0_narrowToGroup_53 : decode cX0_narrowToGroup 53 = .ok (.if_icmp .ne 19, 3) := by decide +kernel
theorem dX0_narrowToGroup_56 : decode cX0_narrowToGroup 56 = .ok (.aload_n 0, 1) := by decide +kernel
theorem dX0_narrowToGroup_57 : decode cX0_narrowToGroup 57 = .ok (.getfield 9, 3) := by decide +kernel
theorem dX0_narrowToGroup_60 : decode cX0_narrowToGroup 60 = .ok (.iload_n 3, 1) := by decide +kernel
theorem dX0_narrowToGroup_61 : decode cX0_narrowToGroup 61 = .ok (.aload_n 0, 1) := by decide +kernel
theorem dX0_narrowToGroup_62 : decode cX0_narrowToGroup 62 = .ok (.getfield 9, 3) := by decide +kernel
theorem dX0_narrowToGroup_65 : decode cX0_narrowToGroup 65 = .ok (.iload 4, 2) := by decide +kernel
theorem dX0_narrowToGroup_67 : decode cX0_narrowToGroup 67 = .ok (.iaload, 1) := by decide +kernel
theorem dX0_narrowToGroup_68 : decode cX0_narrowToGroup 68 = .ok (.iastore, 1) := by decide +kernel
theorem dX0_narrowToGroup_69 : decode cX0_narrowToGroup 69 = .ok (.iinc 3 1, 3) := by decide +kernel
theorem dX0_narrowToGroup_72 : decode cX0_narrowToGroup 72 = .ok (.iinc 4 1, 3) := by decide +kernel
theorem dX0_narrowToGroup_75 : decode cX0_narrowToGroup 75 = .ok (.goto (-47), 3) := by decide +kernel
theorem dX0_narrowToGroup_78 : decode cX0_narrowToGroup 78 = .ok (.aload_n 0, 1) := by decide +kernel
theorem dX0_narrowToGroup_79 : decode cX0_narrowToGroup 79 = .ok (.iload_n 3, 1) := by decide +kernel
theorem dX0_narrowToGroup_80 : decode cX0_narrowToGroup 80 = .ok (.putfield 29, 3) := by decide +kernel
theorem dX0_narrowToGroup_83 : decode cX0_narrowToGroup 83 = .ok (.return_, 1) := by decide +kernel
set_option maxRecDepth 20000 in
theorem ggX0_narrowToSlice_X0_sliceOf : GoodIn wsX0_narrowToSlice wsX0_sliceOf := goodIn_r _ [8, 9, 10, 11, 7, 12, 13, 14, 15] (by decide +kernel) (by decide +kernel)
set_option maxRecDepth 20000 in
theorem gX0_narrowToSlice_X0_sliceOf : GoodIn wsX0_narrowToSlice (va_wsS RX0 103 yX0_sliceOf wsX0_sliceOf) := goodIn_app (goodIn_of _ (by decide +kernel)) ggX0_narrowToSlice_X0_sliceOf
theorem dX0_narrowToSlice_0 : decode cX0_narrowToSlice 0 = .ok (.iconst 0, 1) := by decide +kernel
theorem dX0_narrowToSlice_1 : decode cX0_narrowToSlice 1 = .ok (.istore_n 3, 1) := by decide +kernel
theorem dX0_narrowToSlice_2 : decode cX0_narrowToSlice 2 = .ok (.iconst 0, 1) := by decide +kernel
theorem dX0_narrowToSlice_3 : decode cX0_narrowToSlice 3 = .ok (.istore 4, 2) := by decide +kernel
theorem dX0_narrowToSlice_5 : decode cX0_narrowToSlice 5 = .ok (.iload 4, 2) := by decide +kernel
theorem dX0_narrowToSlice_7 : decode cX0_narrowToSlice 7 = .ok (.aload_n 0, 1) := by decide +kernel
theorem dX0_narrowToSlice_8 : decode cX0_narrowToSlice 8 = .ok (.getfield 29, 3) := by decide +kernel
theorem dX0_narrowToSlice_11 : decode cX0_narrowToSlice 11 = .ok (.if_icmp .ge 50, 3) := by decide +kernel
theorem dX0_narrowToSlice_14 : decode cX0_narrowToSlice 14 = .ok (.aload_n 0, 1) := by decide +kernel
theorem dX0_narrowToSlice_15 : decode cX0_narrowToSlice 15 = .ok (.getfield 33, 3) := by decide +kernel
theorem dX0_narrowToSlice_18 : decode cX0_narrowToSlice 18 = .ok (.getfield 64, 3) := by decide +kernel
theorem dX0_narrowToSlice_21 : decode cX0_narrowToSlice 21 = .ok (.aload_n 0, 1) := by decide +kernel
theorem dX0_narrowToSlice_22 : decode cX0_narrowToSlice 22 = .ok (.getfield 9, 3) := by decide +kernel
theorem dX0_narrowToSlice_25 : decode cX0_narrowToSlice 25 = .ok (.iload 4, 2) := by decide +kernel
theorem dX0_narrowToSlice_27 : decode cX0_narrowToSlice 27 = .ok (.iaload, 1) := by decide +kernel
theorem dX0_narrowToSlice_28 : decode cX0_narrowToSlice 28 = .ok (.laload, 1) := by decide +kernel
theorem dX0_narrowToSlice_29 : decode cX0_narrowToSlice 29 = .ok (.iload_n 1, 1) := by decide +kernel
theorem dX0_narrowToSlice_30 : decode cX0_narrowToSlice 30 = .ok (.invokestatic 103, 3) := by decide +kernel
theorem dX0_narrowToSlice_33 : decode cX0_narrowToSlice 33 = .ok (.iload_n 2, 1) := by decide +kernel
theorem dX0_narrowToSlice_34 : decode cX0_narrowToSlice 34 = .ok (.i2l, 1) := by decide +kernel
theorem dX0_narrowToSlice_35 : decode cX0_narrowToSlice 35 = .ok (.lcmp, 1) := by decide +kernel
theorem dX0_narrowToSlice_36 : decode cX0_narrowToSlice 36 = .ok (.ifCond .ne 19, 3) := by decide +kernel
theorem dX0_narrowToSlice_39 : decode cX0_narrowToSlice 39 = .ok (.aload_n 0, 1) := by decide +kernel
theorem dX0_narrowToSlice_40 : decode cX0_narrowToSlice 40 = .ok (.getfield 9, 3) := by decide +kernel
theorem dX0_narrowToSlice_43 : decode cX0_narrowToSlice 43 = .ok (.iload_n 3, 1) := by decide +kernel
theorem dX0_narrowToSlice_44 : decode cX0_narrowToSlice 44 = .ok (.aload_n 0, 1) := by decide +kernel
theorem dX0_narrowToSlice_45 : decode cX0_narrowToSlice 45 = .ok (.getfield 9, 3) := by decide +kernel
theorem dX0_narrowToSlice_48 : decode cX0_narrowToSlice 48 = .ok (.iload 4, 2) := by decide +kernel
theorem dX0_narrowToSlice_50 : decode cX0_narrowToSlice 50 = .ok (.iaload, 1) := by decide +kernel
theorem dX0_narrowToSlice_51 : decode cX0_narrowToSlice 51 = .ok (.iastore, 1) := by decide +kernel
theorem dX0_narrowToSlice_52 : decode cX0_narrowToSlice 52 = .ok (.iinc 3 1, 3) := by decide +kernel
theorem dX0_narrowToSlice_55 : decode cX0_narrowToSlice 55 = .ok (.iinc 4 1, 3) := by decide +kernel
theorem dX0_narrowToSlice_58 : decode cX0_narrowToSlice 58 = .ok (.goto (-53), 3) := by decide +kernel
theorem dX0_narrowToSlice_61 : decode cX0_narrowToSlice 61 = .ok (.aload_n 0, 1) := by decide +kernel
theorem dX0_narrowToSlice_62 : decode cX0_narrowToSlice 62 = .ok (.iload_n 3, 1) := by decide +kernel
theorem dX0_narrowToSlice_63 : decode cX0_narrowToSlice 63 = .ok (.putfield 29, 3) := by decide +kernel
theorem dX0_narrowToSlice_66 : decode cX0_narrowToSlice 66 = .ok (.return_, 1) := by decide +kernel
set_option maxRecDepth 20000 in
theorem ggX0_sliceOf_X0_mix : GoodIn wsX0_sliceOf wsX0_mix := goodIn_r _ [5, 6, 7, 8] (by decide +kernel) (by decide +kernel)
set_option maxRecDepth 20000 in
theorem gX0_sliceOf_X0_mix : GoodIn wsX0_sliceOf (va_wsS RX0 67 yX0_mix wsX0_mix) := goodIn_app (goodIn_of _ (by decide +kernel)) ggX0_sliceOf_X0_mix
theorem dX0_sliceOf_0 : decode cX0_sliceOf 0 = .ok (.lload_n 0, 1) := by decide +kernel
theorem dX0_sliceOf_1 : decode cX0_sliceOf 1 = .ok (.lconst 0, 1) := by decide +kernel
theorem dX0_sliceOf_2 : decode cX0_sliceOf 2 = .ok (.invokestatic 67, 3) := by decide +kernel
theorem dX0_sliceOf_5 : decode cX0_sliceOf 5 = .ok (.lstore_n 3, 1) := by decide +kernel
theorem dX0_sliceOf_6 : decode cX0_sliceOf 6 = .ok (.lload_n 3, 1) := by decide +kernel
theorem dX0_sliceOf_7 : decode cX0_sliceOf 7 = .ok (.iconst 1, 1) := by decide +kernel
theorem dX0_sliceOf_8 : decode cX0_sliceOf 8 = .ok (.lushr, 1) := by decide +kernel
theorem dX0_sliceOf_9 : decode cX0_sliceOf 9 = .ok (.iload_n 2, 1) := by decide +kernel
theorem dX0_sliceOf_10 : decode cX0_sliceOf 10 = .ok (.i2l, 1) := by decide +kernel
theorem dX0_sliceOf_11 : decode cX0_sliceOf 11 = .ok (.lrem, 1) := by decide +kernel
theorem dX0_sliceOf_12 : decode cX0_sliceOf 12 = .ok (.ldc2_w 107, 3) := by decide +kernel
theorem dX0_sliceOf_15 : decode cX0_sliceOf 15 = .ok (.lmul, 1) := by decide +kernel
theorem dX0_sliceOf_16 : decode cX0_sliceOf 16 = .ok (.lload_n 3, 1) := by decide +kernel
theorem dX0_sliceOf_17 : decode cX0_sliceOf 17 = .ok (.lconst 1, 1) := by decide +kernel
theorem dX0_sliceOf_18 : decode cX0_sliceOf 18 = .ok (.land, 1) := by decide +kernel
theorem dX0_sliceOf_19 : decode cX0_sliceOf 19 = .ok (.ladd, 1) := by decide +kernel
theorem dX0_sliceOf_20 : decode cX0_sliceOf 20 = .ok (.iload_n 2, 1) := by decide +kernel
theorem dX0_sliceOf_21 : decode cX0_sliceOf 21 = .ok (.i2l, 1) := by decide +kernel
theorem dX0_sliceOf_22 : decode cX0_sliceOf 22 = .ok (.lrem, 1) := by decide +kernel
theorem dX0_sliceOf_23 : decode cX0_sliceOf 23 = .ok (.lreturn, 1) := by decide +kernel
theorem dX1_init_0 : decode cX1_init 0 = .ok (.aload_n 0, 1) := by decide +kernel
theorem dX1_init_1 : decode cX1_init 1 = .ok (.invokespecial 1, 3) := by decide +kernel
theorem dX1_init_4 : decode cX1_init 4 = .ok (.aload_n 0, 1) := by decide +kernel
theorem dX1_init_5 : decode cX1_init 5 = .ok (.iconst 0, 1) := by decide +kernel
theorem dX1_init_6 : decode cX1_init 6 = .ok (.putfield 7, 3) := by decide +kernel
theorem dX1_init_9 : decode cX1_init 9 = .ok (.aload_n 0, 1) := by decide +kernel
theorem dX1_init_10 : decode cX1_init 10 = .ok (.iconst 0, 1) := by decide +kernel
theorem dX1_init_11 : decode cX1_init 11 = .ok (.putfield 13, 3) := by decide +kernel
theorem dX1_init_14 : decode cX1_init 14 = .ok (.aload_n 0, 1) := by decide +kernel
theorem dX1_init_15 : decode cX1_init 15 = .ok (.iconst 0, 1) := by decide +kernel
theorem dX1_init_16 : decode cX1_init 16 = .ok (.putfield 16, 3) := by decide +kernel
theorem dX1_init_19 : decode cX1_init 19 = .ok (.aload_n 0, 1) := by decide +kernel
theorem dX1_init_20 : decode cX1_init 20 = .ok (.aload_n 1, 1) := by decide +kernel
theorem dX1_init_21 : decode cX1_init 21 = .ok (.putfield 20, 3) := by decide +kernel
theorem dX1_init_24 : decode cX1_init 24 = .ok (.aload_n 0, 1) := by decide +kernel
theorem dX1_init_25 : decode cX1_init 25 = .ok (.aload_n 2, 1) := by decide +kernel
theorem dX1_init_26 : decode cX1_init 26 = .ok (.putfield 24, 3) := by decide +kernel
theorem dX1_init_29 : decode cX1_init 29 = .ok (.aload_n 0, 1) := by decide +kernel
theorem dX1_init_30 : decode cX1_init 30 = .ok (.iload_n 3, 1) := by decide +kernel
theorem dX1_init_31 : decode cX1_init 31 = .ok (.putfield 28, 3) := by decide +kernel
theorem dX1_init_34 : decode cX1_init 34 = .ok (.aload_n 0, 1) := by decide +kernel
theorem dX1_init_35 : decode cX1_init 35 = .ok (.iload 4, 2) := by decide +kernel
theorem dX1_init_37 : decode cX1_init 37 = .ok (.putfield 31, 3) := by decide +kernel
theorem dX1_init_40 : decode cX1_init 40 = .ok (.return_, 1) := by decide +kernel
theorem dX1_countLeft_0 : decode cX1_countLeft 0 = .ok (.aload_n 0, 1) := by decide +kernel
theorem dX1_countLeft_1 : decode cX1_countLeft 1 = .ok (.getfield 24, 3) := by decide +kernel
theorem dX1_countLeft_4 : decode cX1_countLeft 4 = .ok (.arraylength, 1) := by decide +kernel
theorem dX1_countLeft_5 : decode cX1_countLeft 5 = .ok (.aload_n 0, 1) := by decide +kernel
theorem dX1_countLeft_6 : decode cX1_countLeft 6 = .ok (.getfield 7, 3) := by decide +kernel
theorem dX1_countLeft_9 : decode cX1_countLeft 9 = .ok (.isub, 1) := by decide +kernel
theorem dX1_countLeft_10 : decode cX1_countLeft 10 = .ok (.ireturn, 1) := by decide +kernel
theorem dX2_init_0 : decode cX2_init 0 = .ok (.aload_n 0, 1) := by decide +kernel
theorem dX2_init_1 : decode cX2_init 1 = .ok (.invokespecial 3, 3) := by decide +kernel
theorem dX2_init_4 : decode cX2_init 4 = .ok (.aload_n 0, 1) := by decide +kernel
theorem dX2_init_5 : decode cX2_init 5 = .ok (.bipush 40, 2) := by decide +kernel
theorem dX2_init_7 : decode cX2_init 7 = .ok (.newarray .int, 2) := by decide +kernel
theorem dX2_init_9 : decode cX2_init 9 = .ok (.putfield 9, 3) := by decide +kernel
theorem dX2_init_12 : decode cX2_init 12 = .ok (.aload_n 0, 1) := by decide +kernel
theorem dX2_init_13 : decode cX2_init 13 = .ok (.bipush 40, 2) := by decide +kernel
theorem dX2_init_15 : decode cX2_init 15 = .ok (.newarray .int, 2) := by decide +kernel
theorem dX2_init_17 : decode cX2_init 17 = .ok (.putfield 15, 3) := by decide +kernel
theorem dX2_init_20 : decode cX2_init 20 = .ok (.aload_n 0, 1) := by decide +kernel
theorem dX2_init_21 : decode cX2_init 21 = .ok (.iconst 0, 1) := by decide +kernel
theorem dX2_init_22 : decode cX2_init 22 = .ok (.putfield 18, 3) := by decide +kernel
theorem dX2_init_25 : decode cX2_init 25 = .ok (.return_, 1) := by decide +kernel
theorem dX2_append_0 : decode cX2_append 0 = .ok (.aload_n 0, 1) := by decide +kernel
theorem dX2_append_1 : decode cX2_append 1 = .ok (.getfield 9, 3) := by decide +kernel
theorem dX2_append_4 : decode cX2_append 4 = .ok (.aload_n 0, 1) := by decide +kernel
theorem dX2_append_5 : decode cX2_append 5 = .ok (.getfield 18, 3) := by decide +kernel
theorem dX2_append_8 : decode cX2_append 8 = .ok (.iload_n 1, 1) := by decide +kernel
theorem dX2_append_9 : decode cX2_append 9 = .ok (.iastore, 1) := by decide +kernel
theorem dX2_append_10 : decode cX2_append 10 = .ok (.aload_n 0, 1) := by decide +kernel
theorem dX2_append_11 : decode cX2_append 11 = .ok (.dup, 1) := by decide +kernel
theorem dX2_append_12 : decode cX2_append 12 = .ok (.getfield 18, 3) := by decide +kernel
theorem dX2_append_15 : decode cX2_append 15 = .ok (.iconst 1, 1) := by decide +kernel
theorem dX2_append_16 : decode cX2_append 16 = .ok (.iadd, 1) := by decide +kernel
theorem dX2_append_17 : decode cX2_append 17 = .ok (.putfield 18, 3) := by decide +kernel
theorem dX2_append_20 : decode cX2_append 20 = .ok (.aload_n 0, 1) := by decide +kernel
theorem dX2_append_21 : decode cX2_append 21 = .ok (.getfield 18, 3) := by decide +kernel
theorem dX2_append_24 : decode cX2_append 24 = .ok (.iconst 1, 1) := by decide +kernel
theorem dX2_append_25 : decode cX2_append 25 = .ok (.isub, 1) := by decide +kernel
theorem dX2_append_26 : decode cX2_append 26 = .ok (.ireturn, 1) := by decide +kernel
theorem dX2_stateOf_0 : decode cX2_stateOf 0 = .ok (.aload_n 0, 1) := by decide +kernel
theorem dX2_stateOf_1 : decode cX2_stateOf 1 = .ok (.getfield 9, 3) := by decide +kernel
theorem dX2_stateOf_4 : decode cX2_stateOf 4 = .ok (.iload_n 1, 1) := by decide +kernel
theorem dX2_stateOf_5 : decode cX2_stateOf 5 = .ok (.iaload, 1) := by decide +kernel
theorem dX2_stateOf_6 : decode cX2_stateOf 6 = .ok (.ifCond .le 5, 3) := by decide +kernel
theorem dX2_stateOf_9 : decode cX2_stateOf 9 = .ok (.iconst 0, 1) := by decide +kernel
theorem dX2_stateOf_10 : decode cX2_stateOf 10 = .ok (.ireturn, 1) := by decide +kernel
theorem dX2_stateOf_11 : decode cX2_stateOf 11 = .ok (.aload_n 0, 1) := by decide +kernel
theorem dX2_stateOf_12 : decode cX2_stateOf 12 = .ok (.getfield 15, 3) := by decide +kernel
theorem dX2_stateOf_15 : decode cX2_stateOf 15 = .ok (.iload_n 1, 1) := by decide +kernel
theorem dX2_stateOf_16 : decode cX2_stateOf 16 = .ok (.iaload, 1) := by decide +kernel
theorem dX2_stateOf_17 : decode cX2_stateOf 17 = .ok (.ifCond .le 7, 3) := by decide +kernel
theorem dX2_stateOf_20 : decode cX2_stateOf 20 = .ok (.iconst 1, 1) := by decide +kernel
theorem dX2_stateOf_21 : decode cX2_stateOf 21 = .ok (.goto 4, 3) := by decide +kernel
theorem dX2_stateOf_24 : decode cX2_stateOf 24 = .ok (.iconst 2, 1) := by decide +kernel
theorem dX2_stateOf_25 : decode cX2_stateOf 25 = .ok (.ireturn, 1) := by decide +kernel
set_option maxRecDepth 20000 in
theorem ggX2_countIn_X2_stateOf : GoodIn wsX2_countIn wsX2_stateOf := goodIn_r _ [6, 7, 8, 9, 10, 11] (by decide +kernel) (by decide +kernel)
set_option maxRecDepth 20000 in
theorem gX2_countIn_X2_stateOf : GoodIn wsX2_countIn (wsV RX2 22 RX2 yX2_stateOf wsX2_stateOf) := goodIn_app (goodIn_of _ (by decide +kernel)) ggX2_countIn_X2_stateOf
theorem dX2_countIn_0 : decode cX2_countIn 0 = .ok (.iconst 0, 1) := by decide +kernel
theorem dX2_countIn_1 : decode cX2_countIn 1 = .ok (.istore_n 2, 1) := by decide +kernel
theorem dX2_countIn_2 : decode cX2_countIn 2 = .ok (.iconst 0, 1) := by decide +kernel
theorem dX2_countIn_3 : decode cX2_countIn 3 = .ok (.istore_n 3, 1) := by decide +kernel
theorem dX2_countIn_4 : decode cX2_countIn 4 = .ok (.iload_n 3, 1) := by decide +kernel
theorem dX2_countIn_5 : decode cX2_countIn 5 = .ok (.aload_n 0, 1) := by decide +kernel
theorem dX2_countIn_6 : decode cX2_countIn 6 = .ok (.getfield 18, 3) := by decide +kernel
theorem dX2_countIn_9 : decode cX2_countIn 9 = .ok (.if_icmp .ge 21, 3) := by decide +kernel
theorem dX2_countIn_12 : decode cX2_countIn 12 = .ok (.aload_n 0, 1) := by decide +kernel
theorem dX2_countIn_13 : decode cX2_countIn 13 = .ok (.iload_n 3, 1) := by decide +kernel
theorem dX2_countIn_14 : decode cX2_countIn 14 = .ok (.invokevirtual 22, 3) := by decide +kernel
theorem dX2_countIn_17 : decode cX2_countIn 17 = .ok (.iload_n 1, 1) := by decide +kernel
theorem dX2_countIn_18 : decode cX2_countIn 18 = .ok (.if_icmp .ne 6, 3) := by decide +kernel
theorem dX2_countIn_21 : decode cX2_countIn 21 = .ok (.iinc 2 1, 3) := by decide +kernel
theorem dX2_countIn_24 : decode cX2_countIn 24 = .ok (.iinc 3 1, 3) := by decide +kernel
theorem dX2_countIn_27 : decode cX2_countIn 27 = .ok (.goto (-23), 3) := by decide +kernel
theorem dX2_countIn_30 : decode cX2_countIn 30 = .ok (.iload_n 2, 1) := by decide +kernel
theorem dX2_countIn_31 : decode cX2_countIn 31 = .ok (.ireturn, 1) := by decide +kernel
theorem dX2_isBelow_0 : decode cX2_isBelow 0 = .ok (.aload_n 0, 1) := by decide +kernel
theorem dX2_isBelow_1 : decode cX2_isBelow 1 = .ok (.getfield 9, 3) := by decide +kernel
theorem dX2_isBelow_4 : decode cX2_isBelow 4 = .ok (.iload_n 1, 1) := by decide +kernel
theorem dX2_isBelow_5 : decode cX2_isBelow 5 = .ok (.iaload, 1) := by decide +kernel
theorem dX2_isBelow_6 : decode cX2_isBelow 6 = .ok (.ifCond .le 17, 3) := by decide +kernel
theorem dX2_isBelow_9 : decode cX2_isBelow 9 = .ok (.aload_n 0, 1) := by decide +kernel
theorem dX2_isBelow_10 : decode cX2_isBelow 10 = .ok (.getfield 9, 3) := by decide +kernel
theorem dX2_isBelow_13 : decode cX2_isBelow 13 = .ok (.iload_n 1, 1) := by decide +kernel
theorem dX2_isBelow_14 : decode cX2_isBelow 14 = .ok (.iaload, 1) := by decide +kernel
theorem dX2_isBelow_15 : decode cX2_isBelow 15 = .ok (.iload_n 2, 1) := by decide +kernel
theorem dX2_isBelow_16 : decode cX2_isBelow 16 = .ok (.if_icmp .ge 7, 3) := by decide +kernel
theorem dX2_isBelow_19 : decode cX2_isBelow 19 = .ok (.iconst 1, 1) := by decide +kernel
theorem dX2_isBelow_20 : decode cX2_isBelow 20 = .ok (.goto 4, 3) := by decide +kernel
theorem dX2_isBelow_23 : decode cX2_isBelow 23 = .ok (.iconst 0, 1) := by decide +kernel
theorem dX2_isBelow_24 : decode cX2_isBelow 24 = .ok (.ireturn, 1) := by decide +kernel
set_option maxRecDepth 20000 in
theorem ggX2_countBelow_X2_isBelow : GoodIn wsX2_countBelow wsX2_isBelow := goodIn_r _ [6, 7, 8, 9, 10] (by decide +kernel) (by decide +kernel)
set_option maxRecDepth 20000 in
theorem gX2_countBelow_X2_isBelow : GoodIn wsX2_countBelow (wsV RX2 26 RX2 yX2_isBelow wsX2_isBelow) := goodIn_app (goodIn_of _ (by decide +kernel)) ggX2_countBelow_X2_isBelow
theorem dX2_countBelow_0 : decode cX2_countBelow 0 = .ok (.iconst 0, 1) := by decide +kernel
theorem dX2_countBelow_1 : decode cX2_countBelow 1 = .ok (.istore_n 2, 1) := by decide +kernel
theorem dX2_countBelow_2 : decode cX2_countBelow 2 = .ok (.iconst 0, 1) := by decide +kernel
theorem dX2_countBelow_3 : decode cX2_countBelow 3 = .ok (.istore_n 3, 1) := by decide +kernel
theorem dX2_countBelow_4 : decode cX2_countBelow 4 = .ok (.iload_n 3, 1) := by decide +kernel
theorem dX2_countBelow_5 : decode cX2_countBelow 5 = .ok (.aload_n 0, 1) := by decide +kernel
theorem dX2_countBelow_6 : decode cX2_countBelow 6 = .ok (.getfield 18, 3) := by decide +kernel
theorem dX2_countBelow_9 : decode cX2_countBelow 9 = .ok (.if_icmp .ge 21, 3) := by decide +kernel
theorem dX2_countBelow_12 : decode cX2_countBelow 12 = .ok (.aload_n 0, 1) := by decide +kernel
theorem dX2_countBelow_13 : decode cX2_countBelow 13 = .ok (.iload_n 3, 1) := by decide +kernel
theorem dX2_countBelow_14 : decode cX2_countBelow 14 = .ok (.iload_n 1, 1) := by decide +kernel
theorem dX2_countBelow_15 : decode cX2_countBelow 15 = .ok (.invokevirtual 26, 3) := by decide +kernel
theorem dX2_countBelow_18 : decode cX2_countBelow 18 = .ok (.ifCond .eq 6, 3) := by decide +kernel
theorem dX2_countBelow_21 : decode cX2_countBelow 21 = .ok (.iinc 2 1, 3) := by decide +kernel
theorem dX2_countBelow_24 : decode cX2_countBelow 24 = .ok (.iinc 3 1, 3) := by decide +kernel
theorem dX2_countBelow_27 : decode cX2_countBelow 27 = .ok (.goto (-23), 3) := by decide +kernel
theorem dX2_countBelow_30 : decode cX2_countBelow 30 = .ok (.iload_n 2, 1) := by decide +kernel
theorem dX2_countBelow_31 : decode cX2_countBelow 31 = .ok (.ireturn, 1) := by decide +kernel
set_option maxRecDepth 20000 in
theorem ggX2_emptyBelow_X2_isBelow : GoodIn wsX2_emptyBelow wsX2_isBelow := goodIn_r _ [7, 2, 8, 9, 10] (by decide +kernel) (by decide +kernel)
set_option maxRecDepth 20000 in
theorem gX2_emptyBelow_X2_isBelow : GoodIn wsX2_emptyBelow (wsV RX2 26 RX2 yX2_isBelow wsX2_isBelow) := goodIn_app (goodIn_of _ (by decide +kernel)) ggX2_emptyBelow_X2_isBelow
theorem dX2_emptyBelow_0 : decode cX2_emptyBelow 0 = .ok (.iconst 0, 1) := by decide +kernel
theorem dX2_emptyBelow_1 : decode cX2_emptyBelow 1 = .ok (.istore_n 2, 1) := by decide +kernel
theorem dX2_emptyBelow_2 : decode cX2_emptyBelow 2 = .ok (.iload_n 2, 1) := by decide +kernel
theorem dX2_emptyBelow_3 : decode cX2_emptyBelow 3 = .ok (.aload_n 0, 1) := by decide +kernel
theorem dX2_emptyBelow_4 : decode cX2_emptyBelow 4 = .ok (.getfield 18, 3) := by decide +kernel
theorem dX2_emptyBelow_7 : decode cX2_emptyBelow 7 = .ok (.if_icmp .ge 25, 3) := by decide +kernel
theorem dX2_emptyBelow_10 : decode cX2_emptyBelow 10 = .ok (.aload_n 0, 1) := by decide +kernel
theorem dX2_emptyBelow_11 : decode cX2_emptyBelow 11 = .ok (.iload_n 2, 1) := by decide +kernel
theorem dX2_emptyBelow_12 : decode cX2_emptyBelow 12 = .ok (.iload_n 1, 1) := by decide +kernel
theorem dX2_emptyBelow_13 : decode cX2_emptyBelow 13 = .ok (.invokevirtual 26, 3) := by decide +kernel
theorem dX2_emptyBelow_16 : decode cX2_emptyBelow 16 = .ok (.ifCond .eq 10, 3) := by decide +kernel
theorem dX2_emptyBelow_19 : decode cX2_emptyBelow 19 = .ok (.aload_n 0, 1) := by decide +kernel
theorem dX2_emptyBelow_20 : decode cX2_emptyBelow 20 = .ok (.getfield 9, 3) := by decide +kernel
theorem dX2_emptyBelow_23 : decode cX2_emptyBelow 23 = .ok (.iload_n 2, 1) := by decide +kernel
theorem dX2_emptyBelow_24 : decode cX2_emptyBelow 24 = .ok (.iconst 0, 1) := by decide +kernel
theorem dX2_emptyBelow_25 : decode cX2_emptyBelow 25 = .ok (.iastore, 1) := by decide +kernel
theorem dX2_emptyBelow_26 : decode cX2_emptyBelow 26 = .ok (.iinc 2 1, 3) := by decide +kernel
theorem dX2_emptyBelow_29 : decode cX2_emptyBelow 29 = .ok (.goto (-27), 3) := by decide +kernel
theorem dX2_emptyBelow_32 : decode cX2_emptyBelow 32 = .ok (.return_, 1) := by decide +kernel
theorem dX2_see_0 : decode cX2_see 0 = .ok (.aload_n 0, 1) := by decide +kernel
theorem dX2_see_1 : decode cX2_see 1 = .ok (.getfield 18, 3) := by decide +kernel
theorem dX2_see_4 : decode cX2_see 4 = .ok (.newarray .boolean, 2) := by decide +kernel
theorem dX2_see_6 : decode cX2_see 6 = .ok (.astore_n 1, 1) := by decide +kernel
theorem dX2_see_7 : decode cX2_see 7 = .ok (.iconst 0, 1) := by decide +kernel
theorem dX2_see_8 : decode cX2_see 8 = .ok (.istore_n 2, 1) := by decide +kernel
theorem dX2_see_9 : decode cX2_see 9 = .ok (.iload_n 2, 1) := by decide +kernel
theorem dX2_see_10 : decode cX2_see 10 = .ok (.aload_n 1, 1) := by decide +kernel
theorem dX2_see_11 : decode cX2_see 11 = .ok (.arraylength, 1) := by decide +kernel
theorem dX2_see_12 : decode cX2_see 12 = .ok (.if_icmp .ge 32, 3) := by decide +kernel
theorem dX2_see_15 : decode cX2_see 15 = .ok (.aload_n 0, 1) := by decide +kernel
theorem dX2_see_16 : decode cX2_see 16 = .ok (.getfield 9, 3) := by decide +kernel
theorem dX2_see_19 : decode cX2_see 19 = .ok (.iload_n 2, 1) := by decide +kernel
theorem dX2_see_20 : decode cX2_see 20 = .ok (.iaload, 1) := by decide +kernel
theorem dX2_see_21 : decode cX2_see 21 = .ok (.ifCond .le 17, 3) := by decide +kernel
theorem dX2_see_24 : decode cX2_see 24 = .ok (.aload_n 1, 1) := by decide +kernel
theorem dX2_see_25 : decode cX2_see 25 = .ok (.iload_n 2, 1) := by decide +kernel
theorem dX2_see_26 : decode cX2_see 26 = .ok (.iconst 1, 1) := by decide +kernel
theorem dX2_see_27 : decode cX2_see 27 = .ok (.bastore, 1) := by decide +kernel
theorem dX2_see_28 : decode cX2_see 28 = .ok (.aload_n 0, 1) := by decide +kernel
theorem dX2_see_29 : decode cX2_see 29 = .ok (.getfield 15, 3) := by decide +kernel
theorem dX2_see_32 : decode cX2_see 32 = .ok (.iload_n 2, 1) := by decide +kernel
theorem dX2_see_33 : decode cX2_see 33 = .ok (.dup2, 1) := by decide +kernel
theorem dX2_see_34 : decode cX2_see 34 = .ok (.iaload, 1) := by decide +kernel
theorem dX2_see_35 : decode cX2_see 35 = .ok (.iconst 1, 1) := by decide +kernel
theorem dX2_see_36 : decode cX2_see 36 = .ok (.iadd, 1) := by decide +kernel
theorem dX2_see_37 : decode cX2_see 37 = .ok (.iastore, 1) := by decide +kernel
theorem dX2_see_38 : decode cX2_see 38 = .ok (.iinc 2 1, 3) := by decide +kernel
theorem dX2_see_41 : decode cX2_see 41 = .ok (.goto (-32), 3) := by decide +kernel
theorem dX2_see_44 : decode cX2_see 44 = .ok (.aload_n 1, 1) := by decide +kernel
theorem dX2_see_45 : decode cX2_see 45 = .ok (.areturn, 1) := by decide +kernel
set_option maxRecDepth 20000 in
theorem ggX2_unsee_X2_stateOf : GoodIn wsX2_unsee wsX2_stateOf := goodIn_r _ [6, 7, 1, 8, 9, 10] (by decide +kernel) (by decide +kernel)
set_option maxRecDepth 20000 in
theorem gX2_unsee_X2_stateOf : GoodIn wsX2_unsee (wsV RX2 22 RX2 yX2_stateOf wsX2_stateOf) := goodIn_app (goodIn_of _ (by decide +kernel)) ggX2_unsee_X2_stateOf
theorem dX2_unsee_0 : decode cX2_unsee 0 = .ok (.iconst 0, 1) := by decide +kernel
theorem dX2_unsee_1 : decode cX2_unsee 1 = .ok (.istore_n 2, 1) := by decide +kernel
theorem dX2_unsee_2 : decode cX2_unsee 2 = .ok (.iconst 0, 1) := by decide +kernel
theorem dX2_unsee_3 : decode cX2_unsee 3 = .ok (.istore_n 3, 1) := by decide +kernel
theorem dX2_unsee_4 : decode cX2_unsee 4 = .ok (.iload_n 3, 1) := by decide +kernel
theorem dX2_unsee_5 : decode cX2_unsee 5 = .ok (.aload_n 1, 1) := by decide +kernel
theorem dX2_unsee_6 : decode cX2_unsee 6 = .ok (.arraylength, 1) := by decide +kernel
theorem dX2_unsee_7 : decode cX2_unsee 7 = .ok (.if_icmp .ge 37, 3) := by decide +kernel
theorem dX2_unsee_10 : decode cX2_unsee 10 = .ok (.aload_n 1, 1) := by decide +kernel
theorem dX2_unsee_11 : decode cX2_unsee 11 = .ok (.iload_n 3, 1) := by decide +kernel
theorem dX2_unsee_12 : decode cX2_unsee 12 = .ok (.baload, 1) := by decide +kernel
theorem dX2_unsee_13 : decode cX2_unsee 13 = .ok (.ifCond .eq 25, 3) := by decide +kernel
theorem dX2_unsee_16 : decode cX2_unsee 16 = .ok (.aload_n 0, 1) := by decide +kernel
theorem dX2_unsee_17 : decode cX2_unsee 17 = .ok (.getfield 15, 3) := by decide +kernel
theorem dX2_unsee_20 : decode cX2_unsee 20 = .ok (.iload_n 3, 1) := by decide +kernel
theorem dX2_unsee_21 : decode cX2_unsee 21 = .ok (.dup2, 1) := by decide +kernel
theorem dX2_unsee_22 : decode cX2_unsee 22 = .ok (.iaload, 1) := by decide +kernel
theorem dX2_unsee_23 : decode cX2_unsee 23 = .ok (.iconst 1, 1) := by decide +kernel
theorem dX2_unsee_24 : decode cX2_unsee 24 = .ok (.isub, 1) := by decide +kernel
theorem dX2_unsee_25 : decode cX2_unsee 25 = .ok (.iastore, 1) := by decide +kernel
theorem dX2_unsee_26 : decode cX2_unsee 26 = .ok (.aload_n 0, 1) := by decide +kernel
theorem dX2_unsee_27 : decode cX2_unsee 27 = .ok (.iload_n 3, 1) := by decide +kernel
theorem dX2_unsee_28 : decode cX2_unsee 28 = .ok (.invokevirtual 22, 3) := by decide +kernel
theorem dX2_unsee_31 : decode cX2_unsee 31 = .ok (.iconst 2, 1) := by decide +kernel
theorem dX2_unsee_32 : decode cX2_unsee 32 = .ok (.if_icmp .ne 6, 3) := by decide +kernel
theorem dX2_unsee_35 : decode cX2_unsee 35 = .ok (.iinc 2 1, 3) := by decide +kernel
theorem dX2_unsee_38 : decode cX2_unsee 38 = .ok (.iinc 3 1, 3) := by decide +kernel
theorem dX2_unsee_41 : decode cX2_unsee 41 = .ok (.goto (-37), 3) := by decide +kernel
theorem dX2_unsee_44 : decode cX2_unsee 44 = .ok (.iload_n 2, 1) := by decide +kernel
theorem dX2_unsee_45 : decode cX2_unsee 45 = .ok (.ireturn, 1) := by decide +kernel
theorem dX3_init_0 : decode cX3_init 0 = .ok (.aload_n 0, 1) := by decide +kernel
theorem dX3_init_1 : decode cX3_init 1 = .ok (.invokespecial 3, 3) := by decide +kernel
theorem dX3_init_4 : decode cX3_init 4 = .ok (.aload_n 0, 1) := by decide +kernel
theorem dX3_init_5 : decode cX3_init 5 = .ok (.sipush 300, 3) := by decide +kernel
theorem dX3_init_8 : decode cX3_init 8 = .ok (.newarray .long, 2) := by decide +kernel
theorem dX3_init_10 : decode cX3_init 10 = .ok (.putfield 9, 3) := by decide +kernel
theorem dX3_init_13 : decode cX3_init 13 = .ok (.aload_n 0, 1) := by decide +kernel
theorem dX3_init_14 : decode cX3_init 14 = .ok (.sipush 300, 3) := by decide +kernel
theorem dX3_init_17 : decode cX3_init 17 = .ok (.newarray .long, 2) := by decide +kernel
theorem dX3_init_19 : decode cX3_init 19 = .ok (.putfield 15, 3) := by decide +kernel
theorem dX3_init_22 : decode cX3_init 22 = .ok (.aload_n 0, 1) := by decide +kernel
theorem dX3_init_23 : decode cX3_init 23 = .ok (.sipush 300, 3) := by decide +kernel
theorem dX3_init_26 : decode cX3_init 26 = .ok (.newarray .long, 2) := by decide +kernel
theorem dX3_init_28 : decode cX3_init 28 = .ok (.putfield 18, 3) := by decide +kernel
theorem dX3_init_31 : decode cX3_init 31 = .ok (.aload_n 0, 1) := by decide +kernel
theorem dX3_init_32 : decode cX3_init 32 = .ok (.sipush 300, 3) := by decide +kernel
theorem dX3_init_35 : decode cX3_init 35 = .ok (.newarray .int, 2) := by decide +kernel
theorem dX3_init_37 : decode cX3_init 37 = .ok (.putfield 21, 3) := by decide +kernel
theorem dX3_init_40 : decode cX3_init 40 = .ok (.aload_n 0, 1) := by decide +kernel
theorem dX3_init_41 : decode cX3_init 41 = .ok (.sipush 300, 3) := by decide +kernel
theorem dX3_init_44 : decode cX3_init 44 = .ok (.newarray .int, 2) := by decide +kernel
theorem dX3_init_46 : decode cX3_init 46 = .ok (.putfield 25, 3) := by decide +kernel
theorem dX3_init_49 : decode cX3_init 49 = .ok (.aload_n 0, 1) := by decide +kernel
theorem dX3_init_50 : decode cX3_init 50 = .ok (.sipush 300, 3) := by decide +kernel
theorem dX3_init_53 : decode cX3_init 53 = .ok (.newarray .boolean, 2) := by decide +kernel
theorem dX3_init_55 : decode cX3_init 55 = .ok (.putfield 28, 3) := by decide +kernel
theorem dX3_init_58 : decode cX3_init 58 = .ok (.aload_n 0, 1) := by decide +kernel
theorem dX3_init_59 : decode cX3_init 59 = .ok (.iconst 0, 1) := by decide +kernel
theorem dX3_init_60 : decode cX3_init 60 = .ok (.putfield 32, 3) := by decide +kernel
theorem dX3_init_63 : decode cX3_init 63 = .ok (.aload_n 0, 1) := by decide +kernel
theorem dX3_init_64 : decode cX3_init 64 = .ok (.iconst 0, 1) := by decide +kernel
theorem dX3_init_65 : decode cX3_init 65 = .ok (.putfield 36, 3) := by decide +kernel
theorem dX3_init_68 : decode cX3_init 68 = .ok (.return_, 1) := by decide +kernel
set_option maxRecDepth 20000 in
theorem ggX3_append_X3_firstOf : GoodIn wsX3_append wsX3_firstOf := goodIn_r _ [11, 1, 2, 12, 13, 14, 15, 16, 17, 18, 19] (by decide +kernel) (by decide +kernel)
set_option maxRecDepth 20000 in
theorem gX3_append_X3_firstOf : GoodIn wsX3_append (wsV RX3 39 RX3 yX3_firstOf wsX3_firstOf) := goodIn_app (goodIn_of _ (by decide +kernel)) ggX3_append_X3_firstOf
theorem dX3_append_0 : decode cX3_append 0 = .ok (.aload_n 0, 1) := by decide +kernel
theorem dX3_append_1 : decode cX3_append 1 = .ok (.getfield 32, 3) := by decide +kernel
theorem dX3_append_4 : decode cX3_append 4 = .ok (.istore 7, 2) := by decide +kernel
theorem dX3_append_6 : decode cX3_append 6 = .ok (.aload_n 0, 1) := by decide +kernel
theorem dX3_append_7 : decode cX3_append 7 = .ok (.getfield 9, 3) := by decide +kernel
theorem dX3_append_10 : decode cX3_append 10 = .ok (.iload 7, 2) := by decide +kernel
theorem dX3_append_12 : decode cX3_append 12 = .ok (.lload_n 1, 1) := by decide +kernel
theorem dX3_append_13 : decode cX3_append 13 = .ok (.lastore, 1) := by decide +kernel
theorem dX3_append_14 : decode cX3_append 14 = .ok (.aload_n 0, 1) := by decide +kernel
theorem dX3_append_15 : decode cX3_append 15 = .ok (.getfield 15, 3) := by decide +kernel
theorem dX3_append_18 : decode cX3_append 18 = .ok (.iload 7, 2) := by decide +kernel
theorem dX3_append_20 : decode cX3_append 20 = .ok (.lload_n 3, 1) := by decide +kernel
theorem dX3_append_21 : decode cX3_append 21 = .ok (.lastore, 1) := by decide +kernel
theorem dX3_append_22 : decode cX3_append 22 = .ok (.aload_n 0, 1) := by decide +kernel
theorem dX3_append_23 : decode cX3_append 23 = .ok (.getfield 18, 3) := by decide +kernel
theorem dX3_append_26 : decode cX3_append 26 = .ok (.iload 7, 2) := by decide +kernel
theorem dX3_append_28 : decode cX3_append 28 = .ok (.lload 5, 2) := by decide +kernel
theorem dX3_append_30 : decode cX3_append 30 = .ok (.lastore, 1) := by decide +kernel
theorem dX3_append_31 : decode cX3_append 31 = .ok (.aload_n 0, 1) := by decide +kernel
theorem dX3_append_32 : decode cX3_append 32 = .ok (.getfield 21, 3) := by decide +kernel
theorem dX3_append_35 : decode cX3_append 35 = .ok (.iload 7, 2) := by decide +kernel
theorem dX3_append_37 : decode cX3_append 37 = .ok (.aload_n 0, 1) := by decide +kernel
theorem dX3_append_38 : decode cX3_append 38 = .ok (.lload_n 1, 1) := by decide +kernel
theorem dX3_append_39 : decode cX3_append 39 = .ok (.invokevirtual 39, 3) := by decide +kernel
theorem dX3_append_42 : decode cX3_append 42 = .ok (.iastore, 1) := by decide +kernel
theorem dX3_append_43 : decode cX3_append 43 = .ok (.aload_n 0, 1) := by decide +kernel
theorem dX3_append_44 : decode cX3_append 44 = .ok (.getfield 25, 3) := by decide +kernel
theorem dX3_append_47 : decode cX3_append 47 = .ok (.iload 7, 2) := by decide +kernel
theorem dX3_append_49 : decode cX3_append 49 = .ok (.iconst (-1), 1) := by decide +kernel
theorem dX3_append_50 : decode cX3_append 50 = .ok (.iastore, 1) := by decide +kernel
theorem dX3_append_51 : decode cX3_append 51 = .ok (.aload_n 0, 1) := by decide +kernel
theorem dX3_append_52 : decode cX3_append 52 = .ok (.dup, 1) := by decide +kernel
theorem dX3_append_53 : decode cX3_append 53 = .ok (.getfield 32, 3) := by decide +kernel
theorem dX3_append_56 : decode cX3_append 56 = .ok (.iconst 1, 1) := by decide +kernel
theorem dX3_append_57 : decode cX3_append 57 = .ok (.iadd, 1) := by decide +kernel
theorem dX3_append_58 : decode cX3_append 58 = .ok (.putfield 32, 3) := by decide +kernel
theorem dX3_append_61 : decode cX3_append 61 = .ok (.iload 7, 2) := by decide +kernel
theorem dX3_append_63 : decode cX3_append 63 = .ok (.ireturn, 1) := by decide +kernel
theorem dX3_firstOf_0 : decode cX3_firstOf 0 = .ok (.iconst 0, 1) := by decide +kernel
theorem dX3_firstOf_1 : decode cX3_firstOf 1 = .ok (.istore_n 3, 1) := by decide +kernel
theorem dX3_firstOf_2 : decode cX3_firstOf 2 = .ok (.iload_n 3, 1) := by decide +kernel
theorem dX3_firstOf_3 : decode cX3_firstOf 3 = .ok (.aload_n 0, 1) := by decide +kernel
theorem dX3_firstOf_4 : decode cX3_firstOf 4 = .ok (.getfield 32, 3) := by decide +kernel
theorem dX3_firstOf_7 : decode cX3_firstOf 7 = .ok (.if_icmp .ge 22, 3) := by decide +kernel
theorem dX3_firstOf_10 : decode cX3_firstOf 10 = .ok (.aload_n 0, 1) := by decide +kernel
theorem dX3_firstOf_11 : decode cX3_firstOf 11 = .ok (.getfield 9, 3) := by decide +kernel
theorem dX3_firstOf_14 : decode cX3_firstOf 14 = .ok (.iload_n 3, 1) := by decide +kernel
theorem dX3_firstOf_15 : decode cX3_firstOf 15 = .ok (.laload, 1) := by decide +kernel
theorem dX3_firstOf_16 : decode cX3_firstOf 16 = .ok (.lload_n 1, 1) := by decide +kernel
theorem dX3_firstOf_17 : decode cX3_firstOf 17 = .ok (.lcmp, 1) := by decide +kernel
theorem dX3_firstOf_18 : decode cX3_firstOf 18 = .ok (.ifCond .ne 5, 3) := by decide +kernel
theorem dX3_firstOf_21 : decode cX3_firstOf 21 = .ok (.iload_n 3, 1) := by decide +kernel
theorem dX3_firstOf_22 : decode cX3_firstOf 22 = .ok (.ireturn, 1) := by decide +kernel
theorem dX3_firstOf_23 : decode cX3_firstOf 23 = .ok (.iinc 3 1, 3) := by decide +kernel
theorem dX3_firstOf_26 : decode cX3_firstOf 26 = .ok (.goto (-24), 3) := by decide +kernel
theorem dX3_firstOf_29 : decode cX3_firstOf 29 = .ok (.aload_n 0, 1) := by decide +kernel
theorem dX3_firstOf_30 : decode cX3_firstOf 30 = .ok (.getfield 32, 3) := by decide +kernel
theorem dX3_firstOf_33 : decode cX3_firstOf 33 = .ok (.ireturn, 1) := by decide +kernel
theorem dX3_stands_0 : decode cX3_stands 0 = .ok (.aload_n 0, 1) := by decide +kernel
theorem dX3_stands_1 : decode cX3_stands 1 = .ok (.getfield 25, 3) := by decide +kernel
theorem dX3_stands_4 : decode cX3_stands 4 = .ok (.iload_n 1, 1) := by decide +kernel
theorem dX3_stands_5 : decode cX3_stands 5 = .ok (.iaload, 1) := by decide +kernel
theorem dX3_stands_6 : decode cX3_stands 6 = .ok (.iconst (-1), 1) := by decide +kernel
theorem dX3_stands_7 : decode cX3_stands 7 = .ok (.if_icmp .eq 16, 3) := by decide +kernel
theorem dX3_stands_10 : decode cX3_stands 10 = .ok (.aload_n 0, 1) := by decide +kernel
theorem dX3_stands_11 : decode cX3_stands 11 = .ok (.getfield 28, 3) := by decide +kernel
theorem dX3_stands_14 : decode cX3_stands 14 = .ok (.iload_n 1, 1) := by decide +kernel
theorem dX3_stands_15 : decode cX3_stands 15 = .ok (.baload, 1) := by decide +kernel
theorem dX3_stands_16 : decode cX3_stands 16 = .ok (.ifCond .ne 7, 3) := by decide +kernel
theorem dX3_stands_19 : decode cX3_stands 19 = .ok (.iconst 1, 1) := by decide +kernel
theorem dX3_stands_20 : decode cX3_stands 20 = .ok (.goto 4, 3) := by decide +kernel
theorem dX3_stands_23 : decode cX3_stands 23 = .ok (.iconst 0, 1) := by decide +kernel
theorem dX3_stands_24 : decode cX3_stands 24 = .ok (.ireturn, 1) := by decide +kernel
theorem dX3_countNew_0 : decode cX3_countNew 0 = .ok (.iconst 0, 1) := by decide +kernel
theorem dX3_countNew_1 : decode cX3_countNew 1 = .ok (.istore_n 1, 1) := by decide +kernel
theorem dX3_countNew_2 : decode cX3_countNew 2 = .ok (.aload_n 0, 1) := by decide +kernel
theorem dX3_countNew_3 : decode cX3_countNew 3 = .ok (.getfield 36, 3) := by decide +kernel
theorem dX3_countNew_6 : decode cX3_countNew 6 = .ok (.istore_n 2, 1) := by decide +kernel
theorem dX3_countNew_7 : decode cX3_countNew 7 = .ok (.iload_n 2, 1) := by decide +kernel
theorem dX3_countNew_8 : decode cX3_countNew 8 = .ok (.aload_n 0, 1) := by decide +kernel
theorem dX3_countNew_9 : decode cX3_countNew 9 = .ok (.getfield 32, 3) := by decide +kernel
theorem dX3_countNew_12 : decode cX3_countNew 12 = .ok (.if_icmp .ge 21, 3) := by decide +kernel
theorem dX3_countNew_15 : decode cX3_countNew 15 = .ok (.aload_n 0, 1) := by decide +kernel
theorem dX3_countNew_16 : decode cX3_countNew 16 = .ok (.getfield 28, 3) := by decide +kernel
theorem dX3_countNew_19 : decode cX3_countNew 19 = .ok (.iload_n 2, 1) := by decide +kernel
theorem dX3_countNew_20 : decode cX3_countNew 20 = .ok (.baload, 1) := by decide +kernel
theorem dX3_countNew_21 : decode cX3_countNew 21 = .ok (.ifCond .ne 6, 3) := by decide +kernel
theorem dX3_countNew_24 : decode cX3_countNew 24 = .ok (.iinc 1 1, 3) := by decide +kernel
theorem dX3_countNew_27 : decode cX3_countNew 27 = .ok (.iinc 2 1, 3) := by decide +kernel
theorem dX3_countNew_30 : decode cX3_countNew 30 = .ok (.goto (-23), 3) := by decide +kernel
theorem dX3_countNew_33 : decode cX3_countNew 33 = .ok (.iload_n 1, 1) := by decide +kernel
theorem dX3_countNew_34 : decode cX3_countNew 34 = .ok (.ireturn, 1) := by decide +kernel
theorem dX3_settleNew_0 : decode cX3_settleNew 0 = .ok (.aload_n 0, 1) := by decide +kernel
theorem dX3_settleNew_1 : decode cX3_settleNew 1 = .ok (.getfield 36, 3) := by decide +kernel
theorem dX3_settleNew_4 : decode cX3_settleNew 4 = .ok (.istore_n 2, 1) := by decide +kernel
theorem dX3_settleNew_5 : decode cX3_settleNew 5 = .ok (.iload_n 2, 1) := by decide +kernel
theorem dX3_settleNew_6 : decode cX3_settleNew 6 = .ok (.aload_n 0, 1) := by decide +kernel
theorem dX3_settleNew_7 : decode cX3_settleNew 7 = .ok (.getfield 32, 3) := by decide +kernel
theorem dX3_settleNew_10 : decode cX3_settleNew 10 = .ok (.if_icmp .ge 25, 3) := by decide +kernel
theorem dX3_settleNew_13 : decode cX3_settleNew 13 = .ok (.aload_n 0, 1) := by decide +kernel
theorem dX3_settleNew_14 : decode cX3_settleNew 14 = .ok (.getfield 28, 3) := by decide +kernel
theorem dX3_settleNew_17 : decode cX3_settleNew 17 = .ok (.iload_n 2, 1) := by decide +kernel
theorem dX3_settleNew_18 : decode cX3_settleNew 18 = .ok (.baload, 1) := by decide +kernel
theorem dX3_settleNew_19 : decode cX3_settleNew 19 = .ok (.ifCond .ne 10, 3) := by decide +kernel
theorem dX3_settleNew_22 : decode cX3_settleNew 22 = .ok (.aload_n 0, 1) := by decide +kernel
theorem dX3_settleNew_23 : decode cX3_settleNew 23 = .ok (.getfield 25, 3) := by decide +kernel
theorem dX3_settleNew_26 : decode cX3_settleNew 26 = .ok (.iload_n 2, 1) := by decide +kernel
theorem dX3_settleNew_27 : decode cX3_settleNew 27 = .ok (.iload_n 1, 1) := by decide +kernel
theorem dX3_settleNew_28 : decode cX3_settleNew 28 = .ok (.iastore, 1) := by decide +kernel
theorem dX3_settleNew_29 : decode cX3_settleNew 29 = .ok (.iinc 2 1, 3) := by decide +kernel
theorem dX3_settleNew_32 : decode cX3_settleNew 32 = .ok (.goto (-27), 3) := by decide +kernel
theorem dX3_settleNew_35 : decode cX3_settleNew 35 = .ok (.aload_n 0, 1) := by decide +kernel
theorem dX3_settleNew_36 : decode cX3_settleNew 36 = .ok (.aload_n 0, 1) := by decide +kernel
theorem dX3_settleNew_37 : decode cX3_settleNew 37 = .ok (.getfield 32, 3) := by decide +kernel
theorem dX3_settleNew_40 : decode cX3_settleNew 40 = .ok (.putfield 36, 3) := by decide +kernel
theorem dX3_settleNew_43 : decode cX3_settleNew 43 = .ok (.return_, 1) := by decide +kernel
set_option maxRecDepth 20000 in
theorem ggX3_countStanding_X3_stands : GoodIn wsX3_countStanding wsX3_stands := goodIn_r _ [6, 7, 8, 9, 10, 11, 12, 13, 14, 15, 16] (by decide +kernel) (by decide +kernel)
set_option maxRecDepth 20000 in
theorem gX3_countStanding_X3_stands : GoodIn wsX3_countStanding (wsV RX3 43 RX3 yX3_stands wsX3_stands) := goodIn_app (goodIn_of _ (by decide +kernel)) ggX3_countStanding_X3_stands
theorem dX3_countStanding_0 : decode cX3_countStanding 0 = .ok (.iconst 0, 1) := by decide +kernel
theorem dX3_countStanding_1 : decode cX3_countStanding 1 = .ok (.istore_n 1, 1) := by decide +kernel
theorem dX3_countStanding_2 : decode cX3_countStanding 2 = .ok (.iconst 0, 1) := by decide +kernel
