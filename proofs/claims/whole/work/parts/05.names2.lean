theorem dX3_countStanding_3 : decode cX3_countStanding 3 = .ok (.istore_n 2, 1) := by decide +kernel
theorem dX3_countStanding_4 : decode cX3_countStanding 4 = .ok (.iload_n 2, 1) := by decide +kernel
theorem dX3_countStanding_5 : decode cX3_countStanding 5 = .ok (.aload_n 0, 1) := by decide +kernel
theorem dX3_countStanding_6 : decode cX3_countStanding 6 = .ok (.getfield 32, 3) := by decide +kernel
theorem dX3_countStanding_9 : decode cX3_countStanding 9 = .ok (.if_icmp .ge 20, 3) := by decide +kernel
theorem dX3_countStanding_12 : decode cX3_countStanding 12 = .ok (.aload_n 0, 1) := by decide +kernel
theorem dX3_countStanding_13 : decode cX3_countStanding 13 = .ok (.iload_n 2, 1) := by decide +kernel
theorem dX3_countStanding_14 : decode cX3_countStanding 14 = .ok (.invokevirtual 43, 3) := by decide +kernel
theorem dX3_countStanding_17 : decode cX3_countStanding 17 = .ok (.ifCond .eq 6, 3) := by decide +kernel
theorem dX3_countStanding_20 : decode cX3_countStanding 20 = .ok (.iinc 1 1, 3) := by decide +kernel
theorem dX3_countStanding_23 : decode cX3_countStanding 23 = .ok (.iinc 2 1, 3) := by decide +kernel
theorem dX3_countStanding_26 : decode cX3_countStanding 26 = .ok (.goto (-22), 3) := by decide +kernel
theorem dX3_countStanding_29 : decode cX3_countStanding 29 = .ok (.iload_n 1, 1) := by decide +kernel
theorem dX3_countStanding_30 : decode cX3_countStanding 30 = .ok (.ireturn, 1) := by decide +kernel
set_option maxRecDepth 20000 in
theorem ggX3_listStanding_X3_countStanding : GoodIn wsX3_listStanding wsX3_countStanding := goodIn_r _ [7, 2, 8, 9, 10, 6, 11, 12, 13, 14, 15, 16, 17, 18, 19, 20, 21] (by decide +kernel) (by decide +kernel)
set_option maxRecDepth 20000 in
theorem gX3_listStanding_X3_countStanding : GoodIn wsX3_listStanding (wsV RX3 47 RX3 yX3_countStanding wsX3_countStanding) := goodIn_app (goodIn_of _ (by decide +kernel)) ggX3_listStanding_X3_countStanding
set_option maxRecDepth 20000 in
theorem ggX3_listStanding_X3_stands : GoodIn wsX3_listStanding wsX3_stands := goodIn_r _ [11, 12, 13, 14, 15, 16, 17, 18, 19, 20, 21] (by decide +kernel) (by decide +kernel)
set_option maxRecDepth 20000 in
theorem gX3_listStanding_X3_stands : GoodIn wsX3_listStanding (wsV RX3 43 RX3 yX3_stands wsX3_stands) := goodIn_app (goodIn_of _ (by decide +kernel)) ggX3_listStanding_X3_stands
theorem dX3_listStanding_0 : decode cX3_listStanding 0 = .ok (.aload_n 0, 1) := by decide +kernel
theorem dX3_listStanding_1 : decode cX3_listStanding 1 = .ok (.invokevirtual 47, 3) := by decide +kernel
theorem dX3_listStanding_4 : decode cX3_listStanding 4 = .ok (.newarray .int, 2) := by decide +kernel
theorem dX3_listStanding_6 : decode cX3_listStanding 6 = .ok (.astore_n 1, 1) := by decide +kernel
theorem dX3_listStanding_7 : decode cX3_listStanding 7 = .ok (.iconst 0, 1) := by decide +kernel
theorem dX3_listStanding_8 : decode cX3_listStanding 8 = .ok (.istore_n 2, 1) := by decide +kernel
theorem dX3_listStanding_9 : decode cX3_listStanding 9 = .ok (.iconst 0, 1) := by decide +kernel
theorem dX3_listStanding_10 : decode cX3_listStanding 10 = .ok (.istore_n 3, 1) := by decide +kernel
theorem dX3_listStanding_11 : decode cX3_listStanding 11 = .ok (.iload_n 3, 1) := by decide +kernel
theorem dX3_listStanding_12 : decode cX3_listStanding 12 = .ok (.aload_n 0, 1) := by decide +kernel
theorem dX3_listStanding_13 : decode cX3_listStanding 13 = .ok (.getfield 32, 3) := by decide +kernel
theorem dX3_listStanding_16 : decode cX3_listStanding 16 = .ok (.if_icmp .ge 30, 3) := by decide +kernel
theorem dX3_listStanding_19 : decode cX3_listStanding 19 = .ok (.iload_n 2, 1) := by decide +kernel
theorem dX3_listStanding_20 : decode cX3_listStanding 20 = .ok (.aload_n 1, 1) := by decide +kernel
theorem dX3_listStanding_21 : decode cX3_listStanding 21 = .ok (.arraylength, 1) := by decide +kernel
theorem dX3_listStanding_22 : decode cX3_listStanding 22 = .ok (.if_icmp .ge 24, 3) := by decide +kernel
theorem dX3_listStanding_25 : decode cX3_listStanding 25 = .ok (.aload_n 0, 1) := by decide +kernel
theorem dX3_listStanding_26 : decode cX3_listStanding 26 = .ok (.iload_n 3, 1) := by decide +kernel
theorem dX3_listStanding_27 : decode cX3_listStanding 27 = .ok (.invokevirtual 43, 3) := by decide +kernel
theorem dX3_listStanding_30 : decode cX3_listStanding 30 = .ok (.ifCond .eq 10, 3) := by decide +kernel
theorem dX3_listStanding_33 : decode cX3_listStanding 33 = .ok (.aload_n 1, 1) := by decide +kernel
theorem dX3_listStanding_34 : decode cX3_listStanding 34 = .ok (.iload_n 2, 1) := by decide +kernel
theorem dX3_listStanding_35 : decode cX3_listStanding 35 = .ok (.iload_n 3, 1) := by decide +kernel
theorem dX3_listStanding_36 : decode cX3_listStanding 36 = .ok (.iastore, 1) := by decide +kernel
theorem dX3_listStanding_37 : decode cX3_listStanding 37 = .ok (.iinc 2 1, 3) := by decide +kernel
theorem dX3_listStanding_40 : decode cX3_listStanding 40 = .ok (.iinc 3 1, 3) := by decide +kernel
theorem dX3_listStanding_43 : decode cX3_listStanding 43 = .ok (.goto (-32), 3) := by decide +kernel
theorem dX3_listStanding_46 : decode cX3_listStanding 46 = .ok (.aload_n 1, 1) := by decide +kernel
theorem dX3_listStanding_47 : decode cX3_listStanding 47 = .ok (.areturn, 1) := by decide +kernel
theorem dX4_init_0 : decode cX4_init 0 = .ok (.aload_n 0, 1) := by decide +kernel
theorem dX4_init_1 : decode cX4_init 1 = .ok (.invokespecial 3, 3) := by decide +kernel
theorem dX4_init_4 : decode cX4_init 4 = .ok (.aload_n 0, 1) := by decide +kernel
theorem dX4_init_5 : decode cX4_init 5 = .ok (.iconst 0, 1) := by decide +kernel
theorem dX4_init_6 : decode cX4_init 6 = .ok (.putfield 9, 3) := by decide +kernel
theorem dX4_init_9 : decode cX4_init 9 = .ok (.aload_n 0, 1) := by decide +kernel
theorem dX4_init_10 : decode cX4_init 10 = .ok (.iconst 0, 1) := by decide +kernel
theorem dX4_init_11 : decode cX4_init 11 = .ok (.putfield 15, 3) := by decide +kernel
theorem dX4_init_14 : decode cX4_init 14 = .ok (.aload_n 0, 1) := by decide +kernel
theorem dX4_init_15 : decode cX4_init 15 = .ok (.aload_n 1, 1) := by decide +kernel
theorem dX4_init_16 : decode cX4_init 16 = .ok (.putfield 18, 3) := by decide +kernel
theorem dX4_init_19 : decode cX4_init 19 = .ok (.aload_n 0, 1) := by decide +kernel
theorem dX4_init_20 : decode cX4_init 20 = .ok (.aload_n 1, 1) := by decide +kernel
theorem dX4_init_21 : decode cX4_init 21 = .ok (.arraylength, 1) := by decide +kernel
theorem dX4_init_22 : decode cX4_init 22 = .ok (.putfield 22, 3) := by decide +kernel
theorem dX4_init_25 : decode cX4_init 25 = .ok (.aload_n 0, 1) := by decide +kernel
theorem dX4_init_26 : decode cX4_init 26 = .ok (.iload_n 2, 1) := by decide +kernel
theorem dX4_init_27 : decode cX4_init 27 = .ok (.putfield 25, 3) := by decide +kernel
theorem dX4_init_30 : decode cX4_init 30 = .ok (.aload_n 0, 1) := by decide +kernel
theorem dX4_init_31 : decode cX4_init 31 = .ok (.aload_n 3, 1) := by decide +kernel
theorem dX4_init_32 : decode cX4_init 32 = .ok (.putfield 28, 3) := by decide +kernel
theorem dX4_init_35 : decode cX4_init 35 = .ok (.return_, 1) := by decide +kernel
set_option maxRecDepth 20000 in
theorem ggX5_init_X3_init : GoodIn wsX5_init wsX3_init := goodIn_r _ [27, 28, 2, 3, 29, 30, 31, 32, 22, 33, 34, 35, 36, 37, 38, 56, 57, 58, 59, 60, 61, 62, 63] (by decide +kernel) (by decide +kernel)
set_option maxRecDepth 20000 in
theorem gX5_init_X3_init_n9 : GoodIn wsX5_init (wsX3_init) := ggX5_init_X3_init
set_option maxRecDepth 20000 in
theorem ggX5_init_X2_init : GoodIn wsX5_init wsX2_init := goodIn_r _ [40, 41, 2, 3, 22, 42, 43, 44, 74, 75, 76] (by decide +kernel) (by decide +kernel)
set_option maxRecDepth 20000 in
theorem gX5_init_X2_init_n18 : GoodIn wsX5_init (wsX2_init) := ggX5_init_X2_init
set_option maxRecDepth 20000 in
theorem ggX5_init_X0_init : GoodIn wsX5_init wsX0_init := goodIn_r _ [47, 48, 2, 3, 22, 49, 50, 29, 51, 35, 52, 53, 54, 55, 77, 78, 79, 80, 81, 82, 83] (by decide +kernel) (by decide +kernel)
set_option maxRecDepth 20000 in
theorem gX5_init_X0_init : GoodIn wsX5_init (wsX0_init) := ggX5_init_X0_init
theorem dX5_init_0 : decode cX5_init 0 = .ok (.aload_n 0, 1) := by decide +kernel
theorem dX5_init_1 : decode cX5_init 1 = .ok (.invokespecial 1, 3) := by decide +kernel
theorem dX5_init_4 : decode cX5_init 4 = .ok (.aload_n 0, 1) := by decide +kernel
theorem dX5_init_5 : decode cX5_init 5 = .ok (.new 7, 3) := by decide +kernel
theorem dX5_init_8 : decode cX5_init 8 = .ok (.dup, 1) := by decide +kernel
theorem dX5_init_9 : decode cX5_init 9 = .ok (.invokespecial 9, 3) := by decide +kernel
theorem dX5_init_12 : decode cX5_init 12 = .ok (.putfield 10, 3) := by decide +kernel
theorem dX5_init_15 : decode cX5_init 15 = .ok (.aload_n 0, 1) := by decide +kernel
theorem dX5_init_16 : decode cX5_init 16 = .ok (.new 16, 3) := by decide +kernel
theorem dX5_init_19 : decode cX5_init 19 = .ok (.dup, 1) := by decide +kernel
theorem dX5_init_20 : decode cX5_init 20 = .ok (.invokespecial 18, 3) := by decide +kernel
theorem dX5_init_23 : decode cX5_init 23 = .ok (.putfield 19, 3) := by decide +kernel
theorem dX5_init_26 : decode cX5_init 26 = .ok (.aload_n 0, 1) := by decide +kernel
theorem dX5_init_27 : decode cX5_init 27 = .ok (.new 23, 3) := by decide +kernel
theorem dX5_init_30 : decode cX5_init 30 = .ok (.dup, 1) := by decide +kernel
theorem dX5_init_31 : decode cX5_init 31 = .ok (.aload_n 0, 1) := by decide +kernel
theorem dX5_init_32 : decode cX5_init 32 = .ok (.getfield 10, 3) := by decide +kernel
theorem dX5_init_35 : decode cX5_init 35 = .ok (.invokespecial 25, 3) := by decide +kernel
theorem dX5_init_38 : decode cX5_init 38 = .ok (.putfield 28, 3) := by decide +kernel
theorem dX5_init_41 : decode cX5_init 41 = .ok (.aload_n 0, 1) := by decide +kernel
theorem dX5_init_42 : decode cX5_init 42 = .ok (.bipush 30, 2) := by decide +kernel
theorem dX5_init_44 : decode cX5_init 44 = .ok (.anewarray 32, 3) := by decide +kernel
theorem dX5_init_47 : decode cX5_init 47 = .ok (.putfield 34, 3) := by decide +kernel
theorem dX5_init_50 : decode cX5_init 50 = .ok (.aload_n 0, 1) := by decide +kernel
theorem dX5_init_51 : decode cX5_init 51 = .ok (.iconst 0, 1) := by decide +kernel
theorem dX5_init_52 : decode cX5_init 52 = .ok (.putfield 38, 3) := by decide +kernel
theorem dX5_init_55 : decode cX5_init 55 = .ok (.aload_n 0, 1) := by decide +kernel
theorem dX5_init_56 : decode cX5_init 56 = .ok (.bipush 60, 2) := by decide +kernel
theorem dX5_init_58 : decode cX5_init 58 = .ok (.anewarray 42, 3) := by decide +kernel
theorem dX5_init_61 : decode cX5_init 61 = .ok (.putfield 44, 3) := by decide +kernel
theorem dX5_init_64 : decode cX5_init 64 = .ok (.aload_n 0, 1) := by decide +kernel
theorem dX5_init_65 : decode cX5_init 65 = .ok (.iconst 0, 1) := by decide +kernel
theorem dX5_init_66 : decode cX5_init 66 = .ok (.putfield 48, 3) := by decide +kernel
theorem dX5_init_69 : decode cX5_init 69 = .ok (.aload_n 0, 1) := by decide +kernel
theorem dX5_init_70 : decode cX5_init 70 = .ok (.bipush 50, 2) := by decide +kernel
theorem dX5_init_72 : decode cX5_init 72 = .ok (.newarray .int, 2) := by decide +kernel
theorem dX5_init_74 : decode cX5_init 74 = .ok (.putfield 51, 3) := by decide +kernel
theorem dX5_init_77 : decode cX5_init 77 = .ok (.aload_n 0, 1) := by decide +kernel
theorem dX5_init_78 : decode cX5_init 78 = .ok (.iconst 0, 1) := by decide +kernel
theorem dX5_init_79 : decode cX5_init 79 = .ok (.putfield 55, 3) := by decide +kernel
theorem dX5_init_82 : decode cX5_init 82 = .ok (.aload_n 0, 1) := by decide +kernel
theorem dX5_init_83 : decode cX5_init 83 = .ok (.iconst 0, 1) := by decide +kernel
theorem dX5_init_84 : decode cX5_init 84 = .ok (.putfield 58, 3) := by decide +kernel
theorem dX5_init_87 : decode cX5_init 87 = .ok (.return_, 1) := by decide +kernel
set_option maxRecDepth 20000 in
theorem ggX5_add_X3_append : GoodIn wsX5_add wsX3_append := goodIn_r _ [7, 8, 9, 10, 11, 12, 13, 14, 15, 16, 6, 17, 28, 29, 30, 31, 32, 33, 34, 35] (by decide +kernel) (by decide +kernel)
set_option maxRecDepth 20000 in
theorem gX5_add_X3_append : GoodIn wsX5_add (wsV RX5 64 RX3 yX3_append wsX3_append) := goodIn_app (goodIn_of _ (by decide +kernel)) ggX5_add_X3_append
theorem dX5_add_0 : decode cX5_add 0 = .ok (.aload_n 0, 1) := by decide +kernel
theorem dX5_add_1 : decode cX5_add 1 = .ok (.getfield 10, 3) := by decide +kernel
theorem dX5_add_4 : decode cX5_add 4 = .ok (.getfield 61, 3) := by decide +kernel
theorem dX5_add_7 : decode cX5_add 7 = .ok (.sipush 300, 3) := by decide +kernel
theorem dX5_add_10 : decode cX5_add 10 = .ok (.if_icmp .lt 8, 3) := by decide +kernel
theorem dX5_add_13 : decode cX5_add 13 = .ok (.bipush (-4), 2) := by decide +kernel
theorem dX5_add_15 : decode cX5_add 15 = .ok (.goto 14, 3) := by decide +kernel
theorem dX5_add_18 : decode cX5_add 18 = .ok (.aload_n 0, 1) := by decide +kernel
theorem dX5_add_19 : decode cX5_add 19 = .ok (.getfield 10, 3) := by decide +kernel
theorem dX5_add_22 : decode cX5_add 22 = .ok (.lload_n 1, 1) := by decide +kernel
theorem dX5_add_23 : decode cX5_add 23 = .ok (.lload_n 3, 1) := by decide +kernel
theorem dX5_add_24 : decode cX5_add 24 = .ok (.lload 5, 2) := by decide +kernel
theorem dX5_add_26 : decode cX5_add 26 = .ok (.invokevirtual 64, 3) := by decide +kernel
theorem dX5_add_29 : decode cX5_add 29 = .ok (.ireturn, 1) := by decide +kernel
set_option maxRecDepth 20000 in
theorem ggX5_drop_X5_checkObject : GoodIn wsX5_drop wsX5_checkObject := goodIn_ca (goodIn_r _ [10, 11, 12, 1, 13, 14, 15, 16, 17, 18, 19, 20, 21, 22, 23, 24, 25, 26, 27, 28, 29, 30, 31] (by decide +kernel) (by decide +kernel)) (goodIn_sub (fun _ h => List.mem_cons_of_mem _ (List.mem_append_right _ h)) (by decide +kernel))
set_option maxRecDepth 20000 in
theorem gX5_drop_X5_checkObject : GoodIn wsX5_drop (wsV RX5 68 RX5 yX5_checkObject wsX5_checkObject) := goodIn_app (goodIn_of _ (by decide +kernel)) ggX5_drop_X5_checkObject
theorem dX5_drop_0 : decode cX5_drop 0 = .ok (.aload_n 0, 1) := by decide +kernel
theorem dX5_drop_1 : decode cX5_drop 1 = .ok (.iload_n 1, 1) := by decide +kernel
theorem dX5_drop_2 : decode cX5_drop 2 = .ok (.invokevirtual 68, 3) := by decide +kernel
theorem dX5_drop_5 : decode cX5_drop 5 = .ok (.aload_n 0, 1) := by decide +kernel
theorem dX5_drop_6 : decode cX5_drop 6 = .ok (.getfield 10, 3) := by decide +kernel
theorem dX5_drop_9 : decode cX5_drop 9 = .ok (.getfield 72, 3) := by decide +kernel
theorem dX5_drop_12 : decode cX5_drop 12 = .ok (.iload_n 1, 1) := by decide +kernel
theorem dX5_drop_13 : decode cX5_drop 13 = .ok (.baload, 1) := by decide +kernel
theorem dX5_drop_14 : decode cX5_drop 14 = .ok (.ifCond .eq 5, 3) := by decide +kernel
theorem dX5_drop_17 : decode cX5_drop 17 = .ok (.iconst 0, 1) := by decide +kernel
theorem dX5_drop_18 : decode cX5_drop 18 = .ok (.ireturn, 1) := by decide +kernel
theorem dX5_drop_19 : decode cX5_drop 19 = .ok (.aload_n 0, 1) := by decide +kernel
theorem dX5_drop_20 : decode cX5_drop 20 = .ok (.getfield 10, 3) := by decide +kernel
theorem dX5_drop_23 : decode cX5_drop 23 = .ok (.getfield 72, 3) := by decide +kernel
theorem dX5_drop_26 : decode cX5_drop 26 = .ok (.iload_n 1, 1) := by decide +kernel
theorem dX5_drop_27 : decode cX5_drop 27 = .ok (.iconst 1, 1) := by decide +kernel
theorem dX5_drop_28 : decode cX5_drop 28 = .ok (.bastore, 1) := by decide +kernel
theorem dX5_drop_29 : decode cX5_drop 29 = .ok (.aload_n 0, 1) := by decide +kernel
theorem dX5_drop_30 : decode cX5_drop 30 = .ok (.getfield 10, 3) := by decide +kernel
theorem dX5_drop_33 : decode cX5_drop 33 = .ok (.getfield 76, 3) := by decide +kernel
theorem dX5_drop_36 : decode cX5_drop 36 = .ok (.iload_n 1, 1) := by decide +kernel
theorem dX5_drop_37 : decode cX5_drop 37 = .ok (.iaload, 1) := by decide +kernel
theorem dX5_drop_38 : decode cX5_drop 38 = .ok (.istore_n 2, 1) := by decide +kernel
theorem dX5_drop_39 : decode cX5_drop 39 = .ok (.iload_n 2, 1) := by decide +kernel
theorem dX5_drop_40 : decode cX5_drop 40 = .ok (.iconst (-1), 1) := by decide +kernel
theorem dX5_drop_41 : decode cX5_drop 41 = .ok (.if_icmp .eq 16, 3) := by decide +kernel
theorem dX5_drop_44 : decode cX5_drop 44 = .ok (.aload_n 0, 1) := by decide +kernel
theorem dX5_drop_45 : decode cX5_drop 45 = .ok (.getfield 19, 3) := by decide +kernel
theorem dX5_drop_48 : decode cX5_drop 48 = .ok (.getfield 79, 3) := by decide +kernel
theorem dX5_drop_51 : decode cX5_drop 51 = .ok (.iload_n 2, 1) := by decide +kernel
theorem dX5_drop_52 : decode cX5_drop 52 = .ok (.dup2, 1) := by decide +kernel
theorem dX5_drop_53 : decode cX5_drop 53 = .ok (.iaload, 1) := by decide +kernel
theorem dX5_drop_54 : decode cX5_drop 54 = .ok (.iconst 1, 1) := by decide +kernel
theorem dX5_drop_55 : decode cX5_drop 55 = .ok (.isub, 1) := by decide +kernel
theorem dX5_drop_56 : decode cX5_drop 56 = .ok (.iastore, 1) := by decide +kernel
theorem dX5_drop_57 : decode cX5_drop 57 = .ok (.iconst 1, 1) := by decide +kernel
theorem dX5_drop_58 : decode cX5_drop 58 = .ok (.ireturn, 1) := by decide +kernel
set_option maxRecDepth 20000 in
theorem ggX5_commit_X3_countNew : GoodIn wsX5_commit wsX3_countNew := goodIn_r _ [10, 11, 12, 13, 36, 37, 38, 39, 40, 41, 42, 43] (by decide +kernel) (by decide +kernel)
set_option maxRecDepth 20000 in
theorem gX5_commit_X3_countNew : GoodIn wsX5_commit (wsV RX5 82 RX3 yX3_countNew wsX3_countNew) := goodIn_app (goodIn_of _ (by decide +kernel)) ggX5_commit_X3_countNew
set_option maxRecDepth 20000 in
theorem ggX5_commit_X2_append : GoodIn wsX5_commit wsX2_append := goodIn_r _ [18, 19, 20, 44, 45, 46] (by decide +kernel) (by decide +kernel)
set_option maxRecDepth 20000 in
theorem gX5_commit_X2_append : GoodIn wsX5_commit (wsV RX5 90 RX2 yX2_append wsX2_append) := goodIn_app (goodIn_of _ (by decide +kernel)) ggX5_commit_X2_append
set_option maxRecDepth 20000 in
theorem ggX5_commit_X3_settleNew : GoodIn wsX5_commit wsX3_settleNew := goodIn_r _ [24, 11, 12, 13, 25, 36, 37, 38, 39, 40, 41, 42, 43] (by decide +kernel) (by decide +kernel)
set_option maxRecDepth 20000 in
theorem gX5_commit_X3_settleNew : GoodIn wsX5_commit (wsV RX5 93 RX3 yX3_settleNew wsX3_settleNew) := goodIn_app (goodIn_of _ (by decide +kernel)) ggX5_commit_X3_settleNew
theorem dX5_commit_0 : decode cX5_commit 0 = .ok (.aload_n 0, 1) := by decide +kernel
theorem dX5_commit_1 : decode cX5_commit 1 = .ok (.getfield 10, 3) := by decide +kernel
theorem dX5_commit_4 : decode cX5_commit 4 = .ok (.invokevirtual 82, 3) := by decide +kernel
theorem dX5_commit_7 : decode cX5_commit 7 = .ok (.istore_n 1, 1) := by decide +kernel
theorem dX5_commit_8 : decode cX5_commit 8 = .ok (.iload_n 1, 1) := by decide +kernel
theorem dX5_commit_9 : decode cX5_commit 9 = .ok (.ifCond .ne 19, 3) := by decide +kernel
theorem dX5_commit_12 : decode cX5_commit 12 = .ok (.aload_n 0, 1) := by decide +kernel
theorem dX5_commit_13 : decode cX5_commit 13 = .ok (.getfield 10, 3) := by decide +kernel
theorem dX5_commit_16 : decode cX5_commit 16 = .ok (.aload_n 0, 1) := by decide +kernel
theorem dX5_commit_17 : decode cX5_commit 17 = .ok (.getfield 10, 3) := by decide +kernel
theorem dX5_commit_20 : decode cX5_commit 20 = .ok (.getfield 61, 3) := by decide +kernel
theorem dX5_commit_23 : decode cX5_commit 23 = .ok (.putfield 86, 3) := by decide +kernel
theorem dX5_commit_26 : decode cX5_commit 26 = .ok (.iconst 0, 1) := by decide +kernel
theorem dX5_commit_27 : decode cX5_commit 27 = .ok (.ireturn, 1) := by decide +kernel
theorem dX5_commit_28 : decode cX5_commit 28 = .ok (.aload_n 0, 1) := by decide +kernel
theorem dX5_commit_29 : decode cX5_commit 29 = .ok (.getfield 19, 3) := by decide +kernel
theorem dX5_commit_32 : decode cX5_commit 32 = .ok (.getfield 89, 3) := by decide +kernel
theorem dX5_commit_35 : decode cX5_commit 35 = .ok (.bipush 40, 2) := by decide +kernel
theorem dX5_commit_37 : decode cX5_commit 37 = .ok (.if_icmp .lt 6, 3) := by decide +kernel
theorem dX5_commit_40 : decode cX5_commit 40 = .ok (.bipush (-4), 2) := by decide +kernel
theorem dX5_commit_42 : decode cX5_commit 42 = .ok (.ireturn, 1) := by decide +kernel
theorem dX5_commit_43 : decode cX5_commit 43 = .ok (.aload_n 0, 1) := by decide +kernel
theorem dX5_commit_44 : decode cX5_commit 44 = .ok (.getfield 10, 3) := by decide +kernel
theorem dX5_commit_47 : decode cX5_commit 47 = .ok (.aload_n 0, 1) := by decide +kernel
theorem dX5_commit_48 : decode cX5_commit 48 = .ok (.getfield 19, 3) := by decide +kernel
theorem dX5_commit_51 : decode cX5_commit 51 = .ok (.iload_n 1, 1) := by decide +kernel
theorem dX5_commit_52 : decode cX5_commit 52 = .ok (.invokevirtual 90, 3) := by decide +kernel
theorem dX5_commit_55 : decode cX5_commit 55 = .ok (.invokevirtual 93, 3) := by decide +kernel
theorem dX5_commit_58 : decode cX5_commit 58 = .ok (.iload_n 1, 1) := by decide +kernel
theorem dX5_commit_59 : decode cX5_commit 59 = .ok (.ireturn, 1) := by decide +kernel
set_option maxRecDepth 20000 in
theorem ggX5_merge_X2_countBelow : GoodIn wsX5_merge wsX2_countBelow := goodIn_r _ [7, 8, 9, 10, 11, 6, 12, 13, 48, 49, 50] (by decide +kernel) (by decide +kernel)
set_option maxRecDepth 20000 in
theorem gX5_merge_X2_countBelow : GoodIn wsX5_merge (wsV RX5 96 RX2 yX2_countBelow wsX2_countBelow) := goodIn_app (goodIn_of _ (by decide +kernel)) ggX5_merge_X2_countBelow
set_option maxRecDepth 20000 in
theorem ggX5_merge_X5_moveFromBelow : GoodIn wsX5_merge wsX5_moveFromBelow := goodIn_r _ [18, 19, 20, 1, 21, 22, 23, 24, 25, 26, 27, 28, 29, 10, 11, 6, 12, 13, 38, 39, 40, 41, 42, 43, 44, 45, 46, 47, 51, 52, 53, 54, 55, 56, 57, 58, 48, 49, 50] (by decide +kernel) (by decide +kernel)
set_option maxRecDepth 20000 in
theorem gX5_merge_X5_moveFromBelow : GoodIn wsX5_merge (wsV RX5 99 RX5 yX5_moveFromBelow wsX5_moveFromBelow) := goodIn_app (goodIn_of _ (by decide +kernel)) ggX5_merge_X5_moveFromBelow
set_option maxRecDepth 20000 in
theorem ggX5_merge_X2_emptyBelow : GoodIn wsX5_merge wsX2_emptyBelow := goodIn_r _ [33, 8, 13, 9, 10, 11, 6, 12, 48, 49, 50] (by decide +kernel) (by decide +kernel)
set_option maxRecDepth 20000 in
theorem gX5_merge_X2_emptyBelow : GoodIn wsX5_merge (wsV RX5 103 RX2 yX2_emptyBelow wsX2_emptyBelow) := goodIn_app (goodIn_of _ (by decide +kernel)) ggX5_merge_X2_emptyBelow
set_option maxRecDepth 20000 in
theorem ggX5_merge_X2_append : GoodIn wsX5_merge wsX2_append := goodIn_r _ [37, 13, 8, 48, 49, 50] (by decide +kernel) (by decide +kernel)
set_option maxRecDepth 20000 in
theorem gX5_merge_X2_append : GoodIn wsX5_merge (wsV RX5 90 RX2 yX2_append wsX2_append) := goodIn_app (goodIn_of _ (by decide +kernel)) ggX5_merge_X2_append
theorem dX5_merge_0 : decode cX5_merge 0 = .ok (.aload_n 0, 1) := by decide +kernel
theorem dX5_merge_1 : decode cX5_merge 1 = .ok (.getfield 19, 3) := by decide +kernel
theorem dX5_merge_4 : decode cX5_merge 4 = .ok (.iload_n 1, 1) := by decide +kernel
theorem dX5_merge_5 : decode cX5_merge 5 = .ok (.invokevirtual 96, 3) := by decide +kernel
theorem dX5_merge_8 : decode cX5_merge 8 = .ok (.iconst 2, 1) := by decide +kernel
theorem dX5_merge_9 : decode cX5_merge 9 = .ok (.if_icmp .ge 5, 3) := by decide +kernel
theorem dX5_merge_12 : decode cX5_merge 12 = .ok (.iconst 0, 1) := by decide +kernel
theorem dX5_merge_13 : decode cX5_merge 13 = .ok (.ireturn, 1) := by decide +kernel
theorem dX5_merge_14 : decode cX5_merge 14 = .ok (.aload_n 0, 1) := by decide +kernel
theorem dX5_merge_15 : decode cX5_merge 15 = .ok (.getfield 19, 3) := by decide +kernel
theorem dX5_merge_18 : decode cX5_merge 18 = .ok (.getfield 89, 3) := by decide +kernel
theorem dX5_merge_21 : decode cX5_merge 21 = .ok (.bipush 40, 2) := by decide +kernel
theorem dX5_merge_23 : decode cX5_merge 23 = .ok (.if_icmp .lt 6, 3) := by decide +kernel
theorem dX5_merge_26 : decode cX5_merge 26 = .ok (.bipush (-4), 2) := by decide +kernel
theorem dX5_merge_28 : decode cX5_merge 28 = .ok (.ireturn, 1) := by decide +kernel
theorem dX5_merge_29 : decode cX5_merge 29 = .ok (.aload_n 0, 1) := by decide +kernel
theorem dX5_merge_30 : decode cX5_merge 30 = .ok (.iload_n 1, 1) := by decide +kernel
theorem dX5_merge_31 : decode cX5_merge 31 = .ok (.aload_n 0, 1) := by decide +kernel
theorem dX5_merge_32 : decode cX5_merge 32 = .ok (.getfield 19, 3) := by decide +kernel
theorem dX5_merge_35 : decode cX5_merge 35 = .ok (.getfield 89, 3) := by decide +kernel
theorem dX5_merge_38 : decode cX5_merge 38 = .ok (.invokevirtual 99, 3) := by decide +kernel
theorem dX5_merge_41 : decode cX5_merge 41 = .ok (.istore_n 2, 1) := by decide +kernel
theorem dX5_merge_42 : decode cX5_merge 42 = .ok (.aload_n 0, 1) := by decide +kernel
theorem dX5_merge_43 : decode cX5_merge 43 = .ok (.getfield 19, 3) := by decide +kernel
theorem dX5_merge_46 : decode cX5_merge 46 = .ok (.iload_n 1, 1) := by decide +kernel
theorem dX5_merge_47 : decode cX5_merge 47 = .ok (.invokevirtual 103, 3) := by decide +kernel
theorem dX5_merge_50 : decode cX5_merge 50 = .ok (.aload_n 0, 1) := by decide +kernel
theorem dX5_merge_51 : decode cX5_merge 51 = .ok (.getfield 19, 3) := by decide +kernel
theorem dX5_merge_54 : decode cX5_merge 54 = .ok (.iload_n 2, 1) := by decide +kernel
theorem dX5_merge_55 : decode cX5_merge 55 = .ok (.invokevirtual 90, 3) := by decide +kernel
theorem dX5_merge_58 : decode cX5_merge 58 = .ok (.pop, 1) := by decide +kernel
theorem dX5_merge_59 : decode cX5_merge 59 = .ok (.iload_n 2, 1) := by decide +kernel
theorem dX5_merge_60 : decode cX5_merge 60 = .ok (.ireturn, 1) := by decide +kernel
set_option maxRecDepth 20000 in
theorem ggX5_object_X5_checkObject : GoodIn wsX5_object wsX5_checkObject := goodIn_ca (goodIn_r _ [13, 1, 2, 3, 14, 15, 16, 17, 18, 19, 20, 21, 22, 23, 24, 25, 26, 27, 28, 29, 30, 31, 32] (by decide +kernel) (by decide +kernel)) (goodIn_sub (fun _ h => List.mem_cons_of_mem _ (List.mem_append_right _ h)) (by decide +kernel))
set_option maxRecDepth 20000 in
theorem gX5_object_X5_checkObject : GoodIn wsX5_object (wsV RX5 68 RX5 yX5_checkObject wsX5_checkObject) := goodIn_app (goodIn_of _ (by decide +kernel)) ggX5_object_X5_checkObject
theorem dX5_object_0 : decode cX5_object 0 = .ok (.aload_n 0, 1) := by decide +kernel
theorem dX5_object_1 : decode cX5_object 1 = .ok (.iload_n 1, 1) := by decide +kernel
theorem dX5_object_2 : decode cX5_object 2 = .ok (.invokevirtual 68, 3) := by decide +kernel
theorem dX5_object_5 : decode cX5_object 5 = .ok (.iload_n 2, 1) := by decide +kernel
theorem dX5_object_6 : decode cX5_object 6 = .ok (.tableswitch 93 0 4 #[34, 44, 54, 64, 75], 34) := by decide +kernel
theorem dX5_object_40 : decode cX5_object 40 = .ok (.aload_n 0, 1) := by decide +kernel
theorem dX5_object_41 : decode cX5_object 41 = .ok (.getfield 10, 3) := by decide +kernel
theorem dX5_object_44 : decode cX5_object 44 = .ok (.getfield 106, 3) := by decide +kernel
theorem dX5_object_47 : decode cX5_object 47 = .ok (.iload_n 1, 1) := by decide +kernel
theorem dX5_object_48 : decode cX5_object 48 = .ok (.laload, 1) := by decide +kernel
theorem dX5_object_49 : decode cX5_object 49 = .ok (.lreturn, 1) := by decide +kernel
theorem dX5_object_50 : decode cX5_object 50 = .ok (.aload_n 0, 1) := by decide +kernel
theorem dX5_object_51 : decode cX5_object 51 = .ok (.getfield 10, 3) := by decide +kernel
theorem dX5_object_54 : decode cX5_object 54 = .ok (.getfield 110, 3) := by decide +kernel
theorem dX5_object_57 : decode cX5_object 57 = .ok (.iload_n 1, 1) := by decide +kernel
theorem dX5_object_58 : decode cX5_object 58 = .ok (.laload, 1) := by decide +kernel
theorem dX5_object_59 : decode cX5_object 59 = .ok (.lreturn, 1) := by decide +kernel
theorem dX5_object_60 : decode cX5_object 60 = .ok (.aload_n 0, 1) := by decide +kernel
theorem dX5_object_61 : decode cX5_object 61 = .ok (.getfield 10, 3) := by decide +kernel
theorem dX5_object_64 : decode cX5_object 64 = .ok (.getfield 113, 3) := by decide +kernel
theorem dX5_object_67 : decode cX5_object 67 = .ok (.iload_n 1, 1) := by decide +kernel
theorem dX5_object_68 : decode cX5_object 68 = .ok (.laload, 1) := by decide +kernel
theorem dX5_object_69 : decode cX5_object 69 = .ok (.lreturn, 1) := by decide +kernel
theorem dX5_object_70 : decode cX5_object 70 = .ok (.aload_n 0, 1) := by decide +kernel
theorem dX5_object_71 : decode cX5_object 71 = .ok (.getfield 10, 3) := by decide +kernel
theorem dX5_object_74 : decode cX5_object 74 = .ok (.getfield 76, 3) := by decide +kernel
theorem dX5_object_77 : decode cX5_object 77 = .ok (.iload_n 1, 1) := by decide +kernel
theorem dX5_object_78 : decode cX5_object 78 = .ok (.iaload, 1) := by decide +kernel
theorem dX5_object_79 : decode cX5_object 79 = .ok (.i2l, 1) := by decide +kernel
theorem dX5_object_80 : decode cX5_object 80 = .ok (.lreturn, 1) := by decide +kernel
theorem dX5_object_81 : decode cX5_object 81 = .ok (.aload_n 0, 1) := by decide +kernel
theorem dX5_object_82 : decode cX5_object 82 = .ok (.getfield 10, 3) := by decide +kernel
theorem dX5_object_85 : decode cX5_object 85 = .ok (.getfield 72, 3) := by decide +kernel
theorem dX5_object_88 : decode cX5_object 88 = .ok (.iload_n 1, 1) := by decide +kernel
theorem dX5_object_89 : decode cX5_object 89 = .ok (.baload, 1) := by decide +kernel
theorem dX5_object_90 : decode cX5_object 90 = .ok (.ifCond .eq 7, 3) := by decide +kernel
theorem dX5_object_93 : decode cX5_object 93 = .ok (.lconst 1, 1) := by decide +kernel
theorem dX5_object_94 : decode cX5_object 94 = .ok (.goto 4, 3) := by decide +kernel
theorem dX5_object_97 : decode cX5_object 97 = .ok (.lconst 0, 1) := by decide +kernel
theorem dX5_object_98 : decode cX5_object 98 = .ok (.lreturn, 1) := by decide +kernel
theorem dX5_object_99 : decode cX5_object 99 = .ok (.new 116, 3) := by decide +kernel
theorem dX5_object_102 : decode cX5_object 102 = .ok (.dup, 1) := by decide +kernel
theorem dX5_object_103 : decode cX5_object 103 = .ok (.ldc 118, 2) := by decide +kernel
theorem dX5_object_105 : decode cX5_object 105 = .ok (.invokespecial 120, 3) := by decide +kernel
theorem dX5_object_108 : decode cX5_object 108 = .ok (.athrow, 1) := by decide +kernel
set_option maxRecDepth 20000 in
theorem ggX5_segment_X2_stateOf : GoodIn wsX5_segment wsX2_stateOf := goodIn_r _ [11, 12, 13, 24, 25, 26] (by decide +kernel) (by decide +kernel)
set_option maxRecDepth 20000 in
theorem gX5_segment_X2_stateOf : GoodIn wsX5_segment (wsV RX5 125 RX2 yX2_stateOf wsX2_stateOf) := goodIn_app (goodIn_of _ (by decide +kernel)) ggX5_segment_X2_stateOf
theorem dX5_segment_0 : decode cX5_segment 0 = .ok (.iload_n 1, 1) := by decide +kernel
theorem dX5_segment_1 : decode cX5_segment 1 = .ok (.ifCond .lt 14, 3) := by decide +kernel
theorem dX5_segment_4 : decode cX5_segment 4 = .ok (.iload_n 1, 1) := by decide +kernel
theorem dX5_segment_5 : decode cX5_segment 5 = .ok (.aload_n 0, 1) := by decide +kernel
theorem dX5_segment_6 : decode cX5_segment 6 = .ok (.getfield 19, 3) := by decide +kernel
theorem dX5_segment_9 : decode cX5_segment 9 = .ok (.getfield 89, 3) := by decide +kernel
theorem dX5_segment_12 : decode cX5_segment 12 = .ok (.if_icmp .lt 13, 3) := by decide +kernel
theorem dX5_segment_15 : decode cX5_segment 15 = .ok (.new 116, 3) := by decide +kernel
theorem dX5_segment_18 : decode cX5_segment 18 = .ok (.dup, 1) := by decide +kernel
theorem dX5_segment_19 : decode cX5_segment 19 = .ok (.ldc 123, 2) := by decide +kernel
theorem dX5_segment_21 : decode cX5_segment 21 = .ok (.invokespecial 120, 3) := by decide +kernel
theorem dX5_segment_24 : decode cX5_segment 24 = .ok (.athrow, 1) := by decide +kernel
theorem dX5_segment_25 : decode cX5_segment 25 = .ok (.iload_n 2, 1) := by decide +kernel
theorem dX5_segment_26 : decode cX5_segment 26 = .ok (.tableswitch 55 0 2 #[26, 36, 45], 26) := by decide +kernel
theorem dX5_segment_52 : decode cX5_segment 52 = .ok (.aload_n 0, 1) := by decide +kernel
theorem dX5_segment_53 : decode cX5_segment 53 = .ok (.getfield 19, 3) := by decide +kernel
theorem dX5_segment_56 : decode cX5_segment 56 = .ok (.getfield 79, 3) := by decide +kernel
theorem dX5_segment_59 : decode cX5_segment 59 = .ok (.iload_n 1, 1) := by decide +kernel
theorem dX5_segment_60 : decode cX5_segment 60 = .ok (.iaload, 1) := by decide +kernel
theorem dX5_segment_61 : decode cX5_segment 61 = .ok (.ireturn, 1) := by decide +kernel
theorem dX5_segment_62 : decode cX5_segment 62 = .ok (.aload_n 0, 1) := by decide +kernel
theorem dX5_segment_63 : decode cX5_segment 63 = .ok (.getfield 19, 3) := by decide +kernel
theorem dX5_segment_66 : decode cX5_segment 66 = .ok (.iload_n 1, 1) := by decide +kernel
theorem dX5_segment_67 : decode cX5_segment 67 = .ok (.invokevirtual 125, 3) := by decide +kernel
theorem dX5_segment_70 : decode cX5_segment 70 = .ok (.ireturn, 1) := by decide +kernel
theorem dX5_segment_71 : decode cX5_segment 71 = .ok (.aload_n 0, 1) := by decide +kernel
theorem dX5_segment_72 : decode cX5_segment 72 = .ok (.getfield 19, 3) := by decide +kernel
theorem dX5_segment_75 : decode cX5_segment 75 = .ok (.getfield 128, 3) := by decide +kernel
theorem dX5_segment_78 : decode cX5_segment 78 = .ok (.iload_n 1, 1) := by decide +kernel
theorem dX5_segment_79 : decode cX5_segment 79 = .ok (.iaload, 1) := by decide +kernel
theorem dX5_segment_80 : decode cX5_segment 80 = .ok (.ireturn, 1) := by decide +kernel
theorem dX5_segment_81 : decode cX5_segment 81 = .ok (.new 116, 3) := by decide +kernel
theorem dX5_segment_84 : decode cX5_segment 84 = .ok (.dup, 1) := by decide +kernel
theorem dX5_segment_85 : decode cX5_segment 85 = .ok (.ldc 118, 2) := by decide +kernel
theorem dX5_segment_87 : decode cX5_segment 87 = .ok (.invokespecial 120, 3) := by decide +kernel
theorem dX5_segment_90 : decode cX5_segment 90 = .ok (.athrow, 1) := by decide +kernel
set_option maxRecDepth 20000 in
theorem ggX5_view_X3_listStanding : GoodIn wsX5_view wsX3_listStanding := goodIn_r _ [13, 14, 15, 16, 17, 18, 12, 19, 20, 21, 22, 23, 24, 25, 86, 87, 88, 89, 90, 91, 92, 93] (by decide +kernel) (by decide +kernel)
set_option maxRecDepth 20000 in
theorem gX5_view_X3_listStanding : GoodIn wsX5_view (wsV RX5 131 RX3 yX3_listStanding wsX3_listStanding) := goodIn_app (goodIn_of _ (by decide +kernel)) ggX5_view_X3_listStanding
set_option maxRecDepth 20000 in
theorem ggX5_view_X0_load : GoodIn wsX5_view wsX0_load := goodIn_r _ [30, 31, 32, 33, 34, 35, 36, 37, 38, 39, 40, 94, 95, 96, 97, 98, 99, 100] (by decide +kernel) (by decide +kernel)
set_option maxRecDepth 20000 in
theorem gX5_view_X0_load : GoodIn wsX5_view (wsV RX5 135 RX0 yX0_load wsX0_load) := goodIn_app (goodIn_of _ (by decide +kernel)) ggX5_view_X0_load
set_option maxRecDepth 20000 in
theorem ggX5_view_X0_listGroups : GoodIn wsX5_view wsX0_listGroups := goodIn_r _ [44, 35, 45, 46, 47, 36, 48, 94, 95, 96, 97, 98, 99, 100, 86, 87, 88, 89, 90, 91, 92, 93] (by decide +kernel) (by decide +kernel)
set_option maxRecDepth 20000 in
theorem gX5_view_X0_listGroups : GoodIn wsX5_view (wsV RX5 139 RX0 yX0_listGroups wsX0_listGroups) := goodIn_app (goodIn_of _ (by decide +kernel)) ggX5_view_X0_listGroups
set_option maxRecDepth 20000 in
theorem ggX5_view_X2_see : GoodIn wsX5_view wsX2_see := goodIn_r _ [53, 54, 55, 56, 57, 101, 102, 103] (by decide +kernel) (by decide +kernel)
set_option maxRecDepth 20000 in
theorem gX5_view_X2_see : GoodIn wsX5_view (wsV RX5 142 RX2 yX2_see wsX2_see) := goodIn_app (goodIn_of _ (by decide +kernel)) ggX5_view_X2_see
set_option maxRecDepth 20000 in
theorem ggX5_view_X4_init : GoodIn wsX5_view wsX4_init := goodIn_r _ [60, 61, 62, 63, 64, 65, 66, 67, 68, 69, 80, 81, 82, 83, 84, 85] (by decide +kernel) (by decide +kernel)
set_option maxRecDepth 20000 in
theorem gX5_view_X4_init : GoodIn wsX5_view (wsX4_init) := ggX5_view_X4_init
theorem dX5_view_0 : decode cX5_view 0 = .ok (.aload_n 0, 1) := by decide +kernel
theorem dX5_view_1 : decode cX5_view 1 = .ok (.getfield 38, 3) := by decide +kernel
theorem dX5_view_4 : decode cX5_view 4 = .ok (.bipush 30, 2) := by decide +kernel
theorem dX5_view_6 : decode cX5_view 6 = .ok (.if_icmp .lt 6, 3) := by decide +kernel
theorem dX5_view_9 : decode cX5_view 9 = .ok (.bipush (-4), 2) := by decide +kernel
theorem dX5_view_11 : decode cX5_view 11 = .ok (.ireturn, 1) := by decide +kernel
theorem dX5_view_12 : decode cX5_view 12 = .ok (.aload_n 0, 1) := by decide +kernel
theorem dX5_view_13 : decode cX5_view 13 = .ok (.getfield 10, 3) := by decide +kernel
theorem dX5_view_16 : decode cX5_view 16 = .ok (.invokevirtual 131, 3) := by decide +kernel
theorem dX5_view_19 : decode cX5_view 19 = .ok (.astore_n 1, 1) := by decide +kernel
theorem dX5_view_20 : decode cX5_view 20 = .ok (.aload_n 0, 1) := by decide +kernel
theorem dX5_view_21 : decode cX5_view 21 = .ok (.getfield 28, 3) := by decide +kernel
theorem dX5_view_24 : decode cX5_view 24 = .ok (.aload_n 1, 1) := by decide +kernel
theorem dX5_view_25 : decode cX5_view 25 = .ok (.aload_n 1, 1) := by decide +kernel
theorem dX5_view_26 : decode cX5_view 26 = .ok (.arraylength, 1) := by decide +kernel
theorem dX5_view_27 : decode cX5_view 27 = .ok (.invokevirtual 135, 3) := by decide +kernel
theorem dX5_view_30 : decode cX5_view 30 = .ok (.aload_n 0, 1) := by decide +kernel
theorem dX5_view_31 : decode cX5_view 31 = .ok (.getfield 34, 3) := by decide +kernel
theorem dX5_view_34 : decode cX5_view 34 = .ok (.aload_n 0, 1) := by decide +kernel
theorem dX5_view_35 : decode cX5_view 35 = .ok (.getfield 38, 3) := by decide +kernel
theorem dX5_view_38 : decode cX5_view 38 = .ok (.new 32, 3) := by decide +kernel
theorem dX5_view_41 : decode cX5_view 41 = .ok (.dup, 1) := by decide +kernel
theorem dX5_view_42 : decode cX5_view 42 = .ok (.aload_n 1, 1) := by decide +kernel
theorem dX5_view_43 : decode cX5_view 43 = .ok (.aload_n 0, 1) := by decide +kernel
theorem dX5_view_44 : decode cX5_view 44 = .ok (.getfield 28, 3) := by decide +kernel
theorem dX5_view_47 : decode cX5_view 47 = .ok (.invokevirtual 139, 3) := by decide +kernel
theorem dX5_view_50 : decode cX5_view 50 = .ok (.aload_n 0, 1) := by decide +kernel
theorem dX5_view_51 : decode cX5_view 51 = .ok (.getfield 19, 3) := by decide +kernel
theorem dX5_view_54 : decode cX5_view 54 = .ok (.invokevirtual 142, 3) := by decide +kernel
theorem dX5_view_57 : decode cX5_view 57 = .ok (.invokespecial 146, 3) := by decide +kernel
theorem dX5_view_60 : decode cX5_view 60 = .ok (.aastore, 1) := by decide +kernel
theorem dX5_view_61 : decode cX5_view 61 = .ok (.aload_n 0, 1) := by decide +kernel
theorem dX5_view_62 : decode cX5_view 62 = .ok (.dup, 1) := by decide +kernel
theorem dX5_view_63 : decode cX5_view 63 = .ok (.getfield 38, 3) := by decide +kernel
theorem dX5_view_66 : decode cX5_view 66 = .ok (.iconst 1, 1) := by decide +kernel
theorem dX5_view_67 : decode cX5_view 67 = .ok (.iadd, 1) := by decide +kernel
theorem dX5_view_68 : decode cX5_view 68 = .ok (.putfield 38, 3) := by decide +kernel
theorem dX5_view_71 : decode cX5_view 71 = .ok (.aload_n 0, 1) := by decide +kernel
theorem dX5_view_72 : decode cX5_view 72 = .ok (.getfield 38, 3) := by decide +kernel
theorem dX5_view_75 : decode cX5_view 75 = .ok (.iconst 1, 1) := by decide +kernel
theorem dX5_view_76 : decode cX5_view 76 = .ok (.isub, 1) := by decide +kernel
theorem dX5_view_77 : decode cX5_view 77 = .ok (.ireturn, 1) := by decide +kernel
set_option maxRecDepth 20000 in
theorem ggX5_letGo_X5_viewAt : GoodIn wsX5_letGo wsX5_viewAt := goodIn_ca (goodIn_r _ [6, 7, 8, 9, 10, 42, 43, 44, 45, 46, 47, 48, 49, 50, 51] (by decide +kernel) (by decide +kernel)) (goodIn_sub (fun _ h => List.mem_cons_of_mem _ (List.mem_append_left _ (List.mem_append_right _ h))) (by decide +kernel))
set_option maxRecDepth 20000 in
theorem gX5_letGo_X5_viewAt : GoodIn wsX5_letGo (wsV RX5 149 RX5 yX5_viewAt wsX5_viewAt) := goodIn_app (goodIn_of _ (by decide +kernel)) ggX5_letGo_X5_viewAt
set_option maxRecDepth 20000 in
theorem ggX5_letGo_X5_checkOpen : GoodIn wsX5_letGo wsX5_checkOpen := goodIn_ca (goodIn_r _ [13, 14, 15, 1, 36, 37, 38, 39, 40, 41] (by decide +kernel) (by decide +kernel)) (goodIn_sub (fun _ h => List.mem_cons_of_mem _ (List.mem_append_right _ h)) (by decide +kernel))
set_option maxRecDepth 20000 in
theorem gX5_letGo_X5_checkOpen : GoodIn wsX5_letGo (va_wsS RX5 153 yX5_checkOpen wsX5_checkOpen) := goodIn_app (goodIn_of _ (by decide +kernel)) ggX5_letGo_X5_checkOpen
set_option maxRecDepth 20000 in
theorem ggX5_letGo_X5_endIfIdle : GoodIn wsX5_letGo wsX5_endIfIdle := goodIn_r _ [19, 1, 20, 21, 22, 23, 24, 25, 26, 27, 28, 29, 30, 31, 32, 33, 34, 35, 36, 37, 38, 39, 40, 41, 42, 43, 44, 45, 46, 47, 48, 49, 50, 51, 52, 53, 54] (by decide +kernel) (by decide +kernel)
set_option maxRecDepth 20000 in
theorem gX5_letGo_X5_endIfIdle : GoodIn wsX5_letGo (wsV RX5 160 RX5 yX5_endIfIdle wsX5_endIfIdle) := goodIn_app (goodIn_of _ (by decide +kernel)) ggX5_letGo_X5_endIfIdle
theorem dX5_letGo_0 : decode cX5_letGo 0 = .ok (.aload_n 0, 1) := by decide +kernel
theorem dX5_letGo_1 : decode cX5_letGo 1 = .ok (.iload_n 1, 1) := by decide +kernel
theorem dX5_letGo_2 : decode cX5_letGo 2 = .ok (.invokevirtual 149, 3) := by decide +kernel
theorem dX5_letGo_5 : decode cX5_letGo 5 = .ok (.astore_n 2, 1) := by decide +kernel
theorem dX5_letGo_6 : decode cX5_letGo 6 = .ok (.aload_n 2, 1) := by decide +kernel
theorem dX5_letGo_7 : decode cX5_letGo 7 = .ok (.invokestatic 153, 3) := by decide +kernel
theorem dX5_letGo_10 : decode cX5_letGo 10 = .ok (.aload_n 2, 1) := by decide +kernel
theorem dX5_letGo_11 : decode cX5_letGo 11 = .ok (.iconst 1, 1) := by decide +kernel
theorem dX5_letGo_12 : decode cX5_letGo 12 = .ok (.putfield 157, 3) := by decide +kernel
theorem dX5_letGo_15 : decode cX5_letGo 15 = .ok (.aload_n 0, 1) := by decide +kernel
theorem dX5_letGo_16 : decode cX5_letGo 16 = .ok (.aload_n 2, 1) := by decide +kernel
theorem dX5_letGo_17 : decode cX5_letGo 17 = .ok (.invokevirtual 160, 3) := by decide +kernel
theorem dX5_letGo_20 : decode cX5_letGo 20 = .ok (.ireturn, 1) := by decide +kernel
set_option maxRecDepth 20000 in
theorem ggX5_state_X5_viewAt : GoodIn wsX5_state wsX5_viewAt := goodIn_ca (goodIn_r _ [6, 7, 8, 9, 10, 17, 18, 19, 20, 21, 22, 23, 24, 25, 26] (by decide +kernel) (by decide +kernel)) (goodIn_sub (fun _ h => List.mem_cons_of_mem _ (List.mem_append_right _ h)) (by decide +kernel))
set_option maxRecDepth 20000 in
theorem gX5_state_X5_viewAt : GoodIn wsX5_state (wsV RX5 149 RX5 yX5_viewAt wsX5_viewAt) := goodIn_app (goodIn_of _ (by decide +kernel)) ggX5_state_X5_viewAt
theorem dX5_state_0 : decode cX5_state 0 = .ok (.aload_n 0, 1) := by decide +kernel
theorem dX5_state_1 : decode cX5_state 1 = .ok (.iload_n 1, 1) := by decide +kernel
theorem dX5_state_2 : decode cX5_state 2 = .ok (.invokevirtual 149, 3) := by decide +kernel
theorem dX5_state_5 : decode cX5_state 5 = .ok (.getfield 157, 3) := by decide +kernel
theorem dX5_state_8 : decode cX5_state 8 = .ok (.ireturn, 1) := by decide +kernel
set_option maxRecDepth 20000 in
theorem ggX5_size_X5_viewAt : GoodIn wsX5_size wsX5_viewAt := goodIn_ca (goodIn_r _ [6, 7, 8, 9, 10, 17, 18, 19, 20, 21, 22, 23, 24, 25, 26] (by decide +kernel) (by decide +kernel)) (goodIn_sub (fun _ h => List.mem_cons_of_mem _ (List.mem_append_right _ h)) (by decide +kernel))
set_option maxRecDepth 20000 in
theorem gX5_size_X5_viewAt : GoodIn wsX5_size (wsV RX5 149 RX5 yX5_viewAt wsX5_viewAt) := goodIn_app (goodIn_of _ (by decide +kernel)) ggX5_size_X5_viewAt
theorem dX5_size_0 : decode cX5_size 0 = .ok (.aload_n 0, 1) := by decide +kernel
theorem dX5_size_1 : decode cX5_size 1 = .ok (.iload_n 1, 1) := by decide +kernel
theorem dX5_size_2 : decode cX5_size 2 = .ok (.invokevirtual 149, 3) := by decide +kernel
theorem dX5_size_5 : decode cX5_size 5 = .ok (.getfield 164, 3) := by decide +kernel
theorem dX5_size_8 : decode cX5_size 8 = .ok (.ireturn, 1) := by decide +kernel
set_option maxRecDepth 20000 in
theorem ggX5_hit_X5_viewAt : GoodIn wsX5_hit wsX5_viewAt := goodIn_ca (goodIn_r _ [9, 1, 2, 10, 11, 77, 78, 79, 80, 81, 82, 83, 84, 85, 86] (by decide +kernel) (by decide +kernel)) (goodIn_sub (fun _ h => List.mem_cons_of_mem _ (List.mem_append_left _ (List.mem_append_left _ (List.mem_append_right _ h)))) (by decide +kernel))
set_option maxRecDepth 20000 in
theorem gX5_hit_X5_viewAt : GoodIn wsX5_hit (wsV RX5 149 RX5 yX5_viewAt wsX5_viewAt) := goodIn_app (goodIn_of _ (by decide +kernel)) ggX5_hit_X5_viewAt
set_option maxRecDepth 20000 in
theorem ggX5_hit_X5_rankHits : GoodIn wsX5_hit wsX5_rankHits := goodIn_ca (goodIn_r _ [15, 4, 16, 3, 17, 18, 8, 19, 20, 21, 22, 23, 24, 25, 26, 27, 28, 29, 30, 31, 32, 33, 34, 35, 36, 37, 38, 39, 40, 41, 42, 43, 44, 45, 46, 47, 48, 49, 50, 51, 52, 53, 54, 55, 56, 57, 58, 59, 60, 61, 62, 63, 64, 65, 77, 78, 79, 80, 81, 82, 83, 84, 85, 86, 71, 72, 73, 74, 75, 76, 87, 88, 89, 90, 91, 92, 93, 94, 95, 96, 97, 98, 99, 100, 101] (by decide +kernel) (by decide +kernel)) (goodIn_sub (fun _ h => List.mem_cons_of_mem _ (List.mem_append_left _ (List.mem_append_right _ h))) (by decide +kernel))
set_option maxRecDepth 20000 in
theorem gX5_hit_X5_rankHits : GoodIn wsX5_hit (wsV RX5 167 RX5 yX5_rankHits wsX5_rankHits) := goodIn_app (goodIn_of _ (by decide +kernel)) ggX5_hit_X5_rankHits
set_option maxRecDepth 20000 in
theorem ggX5_hit_X0_memberAt : GoodIn wsX5_hit wsX0_memberAt := goodIn_ca (goodIn_r _ [69, 70, 2, 31, 32, 87, 88, 89, 90, 91, 92, 93] (by decide +kernel) (by decide +kernel)) (goodIn_sub (fun _ h => List.mem_cons_of_mem _ (List.mem_append_right _ h)) (by decide +kernel))
set_option maxRecDepth 20000 in
theorem gX5_hit_X0_memberAt : GoodIn wsX5_hit (wsV RX5 171 RX0 yX0_memberAt wsX0_memberAt) := goodIn_app (goodIn_of _ (by decide +kernel)) ggX5_hit_X0_memberAt
theorem dX5_hit_0 : decode cX5_hit 0 = .ok (.aload_n 0, 1) := by decide +kernel
theorem dX5_hit_1 : decode cX5_hit 1 = .ok (.iload_n 1, 1) := by decide +kernel
theorem dX5_hit_2 : decode cX5_hit 2 = .ok (.invokevirtual 149, 3) := by decide +kernel
theorem dX5_hit_5 : decode cX5_hit 5 = .ok (.astore 6, 2) := by decide +kernel
theorem dX5_hit_7 : decode cX5_hit 7 = .ok (.iload 5, 2) := by decide +kernel
theorem dX5_hit_9 : decode cX5_hit 9 = .ok (.ifCond .lt 13, 3) := by decide +kernel
theorem dX5_hit_12 : decode cX5_hit 12 = .ok (.iload 5, 2) := by decide +kernel
theorem dX5_hit_14 : decode cX5_hit 14 = .ok (.aload 6, 2) := by decide +kernel
theorem dX5_hit_16 : decode cX5_hit 16 = .ok (.getfield 164, 3) := by decide +kernel
theorem dX5_hit_19 : decode cX5_hit 19 = .ok (.if_icmp .lt 13, 3) := by decide +kernel
theorem dX5_hit_22 : decode cX5_hit 22 = .ok (.new 116, 3) := by decide +kernel
theorem dX5_hit_25 : decode cX5_hit 25 = .ok (.dup, 1) := by decide +kernel
theorem dX5_hit_26 : decode cX5_hit 26 = .ok (.ldc 165, 2) := by decide +kernel
theorem dX5_hit_28 : decode cX5_hit 28 = .ok (.invokespecial 120, 3) := by decide +kernel
theorem dX5_hit_31 : decode cX5_hit 31 = .ok (.athrow, 1) := by decide +kernel
theorem dX5_hit_32 : decode cX5_hit 32 = .ok (.aload_n 0, 1) := by decide +kernel
theorem dX5_hit_33 : decode cX5_hit 33 = .ok (.aload 6, 2) := by decide +kernel
theorem dX5_hit_35 : decode cX5_hit 35 = .ok (.iload_n 2, 1) := by decide +kernel
theorem dX5_hit_36 : decode cX5_hit 36 = .ok (.lload_n 3, 1) := by decide +kernel
theorem dX5_hit_37 : decode cX5_hit 37 = .ok (.invokevirtual 167, 3) := by decide +kernel
theorem dX5_hit_40 : decode cX5_hit 40 = .ok (.aload_n 0, 1) := by decide +kernel
theorem dX5_hit_41 : decode cX5_hit 41 = .ok (.getfield 28, 3) := by decide +kernel
theorem dX5_hit_44 : decode cX5_hit 44 = .ok (.iload 5, 2) := by decide +kernel
theorem dX5_hit_46 : decode cX5_hit 46 = .ok (.invokevirtual 171, 3) := by decide +kernel
theorem dX5_hit_49 : decode cX5_hit 49 = .ok (.ireturn, 1) := by decide +kernel
set_option maxRecDepth 20000 in
theorem ggX5_place_X5_viewAt : GoodIn wsX5_place wsX5_viewAt := goodIn_ca (goodIn_r _ [6, 7, 8, 9, 10, 76, 77, 78, 79, 80, 81, 82, 83, 84, 85] (by decide +kernel) (by decide +kernel)) (goodIn_sub (fun _ h => List.mem_cons_of_mem _ (List.mem_append_left _ (List.mem_append_right _ h))) (by decide +kernel))
set_option maxRecDepth 20000 in
theorem gX5_place_X5_viewAt : GoodIn wsX5_place (wsV RX5 149 RX5 yX5_viewAt wsX5_viewAt) := goodIn_app (goodIn_of _ (by decide +kernel)) ggX5_place_X5_viewAt
set_option maxRecDepth 20000 in
theorem ggX5_place_X5_checkObject : GoodIn wsX5_place wsX5_checkObject := goodIn_ca (goodIn_r _ [14, 7, 8, 15, 16, 76, 77, 78, 79, 80, 81, 82, 83, 84, 85, 86, 87, 88, 89, 90, 91, 92, 93] (by decide +kernel) (by decide +kernel)) (goodIn_sub (fun _ h => List.mem_cons_of_mem _ (List.mem_append_left _ (List.mem_append_right _ h))) (by decide +kernel))
set_option maxRecDepth 20000 in
theorem gX5_place_X5_checkObject : GoodIn wsX5_place (wsV RX5 68 RX5 yX5_checkObject wsX5_checkObject) := goodIn_app (goodIn_of _ (by decide +kernel)) ggX5_place_X5_checkObject
set_option maxRecDepth 20000 in
theorem ggX5_place_X5_rankHits : GoodIn wsX5_place wsX5_rankHits := goodIn_ca (goodIn_r _ [20, 1, 21, 22, 23, 24, 5, 25, 26, 27, 28, 29, 30, 31, 32, 33, 34, 35, 36, 37, 38, 39, 40, 41, 42, 43, 44, 45, 46, 47, 48, 49, 50, 51, 52, 53, 54, 55, 56, 57, 58, 59, 60, 61, 62, 63, 64, 65, 66, 67, 68, 69, 70, 71, 76, 77, 78, 79, 80, 81, 82, 83, 84, 85, 94, 95, 96, 97, 98, 99, 100, 101, 102, 103, 104, 105, 106, 86, 87, 88, 89, 90, 91, 92, 93] (by decide +kernel) (by decide +kernel)) (goodIn_sub (fun _ h => List.mem_cons_of_mem _ (List.mem_append_right _ h)) (by decide +kernel))
set_option maxRecDepth 20000 in
theorem gX5_place_X5_rankHits : GoodIn wsX5_place (wsV RX5 167 RX5 yX5_rankHits wsX5_rankHits) := goodIn_app (goodIn_of _ (by decide +kernel)) ggX5_place_X5_rankHits
set_option maxRecDepth 20000 in
theorem ggX5_place_X0_find : GoodIn wsX5_place wsX0_find := goodIn_r _ [75, 37, 38, 100, 101, 102, 103, 104, 105, 106] (by decide +kernel) (by decide +kernel)
set_option maxRecDepth 20000 in
theorem gX5_place_X0_find : GoodIn wsX5_place (wsV RX5 174 RX0 yX0_find wsX0_find) := goodIn_app (goodIn_of _ (by decide +kernel)) ggX5_place_X0_find
theorem dX5_place_0 : decode cX5_place 0 = .ok (.aload_n 0, 1) := by decide +kernel
theorem dX5_place_1 : decode cX5_place 1 = .ok (.iload_n 1, 1) := by decide +kernel
theorem dX5_place_2 : decode cX5_place 2 = .ok (.invokevirtual 149, 3) := by decide +kernel
theorem dX5_place_5 : decode cX5_place 5 = .ok (.astore 6, 2) := by decide +kernel
theorem dX5_place_7 : decode cX5_place 7 = .ok (.aload_n 0, 1) := by decide +kernel
theorem dX5_place_8 : decode cX5_place 8 = .ok (.iload 5, 2) := by decide +kernel
theorem dX5_place_10 : decode cX5_place 10 = .ok (.invokevirtual 68, 3) := by decide +kernel
theorem dX5_place_13 : decode cX5_place 13 = .ok (.aload_n 0, 1) := by decide +kernel
theorem dX5_place_14 : decode cX5_place 14 = .ok (.aload 6, 2) := by decide +kernel
theorem dX5_place_16 : decode cX5_place 16 = .ok (.iload_n 2, 1) := by decide +kernel
theorem dX5_place_17 : decode cX5_place 17 = .ok (.lload_n 3, 1) := by decide +kernel
theorem dX5_place_18 : decode cX5_place 18 = .ok (.invokevirtual 167, 3) := by decide +kernel
theorem dX5_place_21 : decode cX5_place 21 = .ok (.aload_n 0, 1) := by decide +kernel
theorem dX5_place_22 : decode cX5_place 22 = .ok (.getfield 28, 3) := by decide +kernel
theorem dX5_place_25 : decode cX5_place 25 = .ok (.iload 5, 2) := by decide +kernel
theorem dX5_place_27 : decode cX5_place 27 = .ok (.invokevirtual 174, 3) := by decide +kernel
theorem dX5_place_30 : decode cX5_place 30 = .ok (.ireturn, 1) := by decide +kernel
set_option maxRecDepth 20000 in
theorem ggX5_groups_X5_viewAt : GoodIn wsX5_groups wsX5_viewAt := goodIn_ca (goodIn_r _ [6, 7, 8, 9, 10, 17, 18, 19, 20, 21, 22, 23, 24, 25, 26] (by decide +kernel) (by decide +kernel)) (goodIn_sub (fun _ h => List.mem_cons_of_mem _ (List.mem_append_right _ h)) (by decide +kernel))
set_option maxRecDepth 20000 in
theorem gX5_groups_X5_viewAt : GoodIn wsX5_groups (wsV RX5 149 RX5 yX5_viewAt wsX5_viewAt) := goodIn_app (goodIn_of _ (by decide +kernel)) ggX5_groups_X5_viewAt
theorem dX5_groups_0 : decode cX5_groups 0 = .ok (.aload_n 0, 1) := by decide +kernel
theorem dX5_groups_1 : decode cX5_groups 1 = .ok (.iload_n 1, 1) := by decide +kernel
theorem dX5_groups_2 : decode cX5_groups 2 = .ok (.invokevirtual 149, 3) := by decide +kernel
theorem dX5_groups_5 : decode cX5_groups 5 = .ok (.getfield 177, 3) := by decide +kernel
theorem dX5_groups_8 : decode cX5_groups 8 = .ok (.ireturn, 1) := by decide +kernel
set_option maxRecDepth 20000 in
theorem ggX5_group_X5_viewAt : GoodIn wsX5_group wsX5_viewAt := goodIn_ca (goodIn_r _ [8, 9, 10, 11, 12, 92, 93, 94, 95, 96, 97, 98, 99, 100, 101] (by decide +kernel) (by decide +kernel)) (goodIn_sub (fun _ h => List.mem_cons_of_mem _ (List.mem_append_left _ (List.mem_append_left _ (List.mem_append_right _ h)))) (by decide +kernel))
set_option maxRecDepth 20000 in
theorem gX5_group_X5_viewAt : GoodIn wsX5_group (wsV RX5 149 RX5 yX5_viewAt wsX5_viewAt) := goodIn_app (goodIn_of _ (by decide +kernel)) ggX5_group_X5_viewAt
set_option maxRecDepth 20000 in
theorem ggX5_group_X5_rankGroup : GoodIn wsX5_group wsX5_rankGroup := goodIn_ca (goodIn_ca (goodIn_r _ [16, 3, 17, 18, 7, 19, 9, 10, 20, 21, 22, 23, 24, 25, 26, 27, 28, 29, 30, 31, 32, 33, 34, 35, 36, 37, 38, 39, 40, 41, 42, 43, 44, 45, 46, 47, 48, 49, 50, 51, 52, 53, 54, 55, 56, 57, 58, 59, 60, 61, 62, 63, 64, 65, 66, 67, 68, 69, 70, 71, 72, 73, 74, 75, 76, 77, 78, 79, 80, 81, 82, 83, 84, 85, 86, 92, 93, 94, 95, 96, 97, 98, 99, 100, 101, 110, 111, 112, 113, 114, 115, 116, 117, 118, 119, 120, 121, 122, 102, 103, 104, 105, 106, 107, 108, 109] (by decide +kernel) (by decide +kernel)) (goodIn_sub (fun _ h => List.mem_cons_of_mem _ (List.mem_append_left _ (List.mem_append_left _ (List.mem_append_right _ h)))) (by decide +kernel))) (goodIn_sub (fun _ h => List.mem_cons_of_mem _ (List.mem_append_left _ (List.mem_append_right _ h))) (by decide +kernel))
set_option maxRecDepth 20000 in
theorem gX5_group_X5_rankGroup : GoodIn wsX5_group (wsV RX5 180 RX5 yX5_rankGroup wsX5_rankGroup) := goodIn_app (goodIn_of _ (by decide +kernel)) ggX5_group_X5_rankGroup
set_option maxRecDepth 20000 in
theorem ggX5_group_X0_memberAt : GoodIn wsX5_group wsX0_memberAt := goodIn_ca (goodIn_r _ [90, 91, 10, 41, 42, 116, 117, 118, 119, 120, 121, 122] (by decide +kernel) (by decide +kernel)) (goodIn_sub (fun _ h => List.mem_cons_of_mem _ (List.mem_append_right _ h)) (by decide +kernel))
set_option maxRecDepth 20000 in
theorem gX5_group_X0_memberAt : GoodIn wsX5_group (wsV RX5 171 RX0 yX0_memberAt wsX0_memberAt) := goodIn_app (goodIn_of _ (by decide +kernel)) ggX5_group_X0_memberAt
theorem dX5_group_0 : decode cX5_group 0 = .ok (.aload_n 0, 1) := by decide +kernel
theorem dX5_group_1 : decode cX5_group 1 = .ok (.aload_n 0, 1) := by decide +kernel
theorem dX5_group_2 : decode cX5_group 2 = .ok (.iload_n 1, 1) := by decide +kernel
theorem dX5_group_3 : decode cX5_group 3 = .ok (.invokevirtual 149, 3) := by decide +kernel
theorem dX5_group_6 : decode cX5_group 6 = .ok (.iload_n 2, 1) := by decide +kernel
theorem dX5_group_7 : decode cX5_group 7 = .ok (.lload_n 3, 1) := by decide +kernel
theorem dX5_group_8 : decode cX5_group 8 = .ok (.iload 5, 2) := by decide +kernel
theorem dX5_group_10 : decode cX5_group 10 = .ok (.invokevirtual 180, 3) := by decide +kernel
theorem dX5_group_13 : decode cX5_group 13 = .ok (.aload_n 0, 1) := by decide +kernel
theorem dX5_group_14 : decode cX5_group 14 = .ok (.getfield 10, 3) := by decide +kernel
theorem dX5_group_17 : decode cX5_group 17 = .ok (.getfield 106, 3) := by decide +kernel
theorem dX5_group_20 : decode cX5_group 20 = .ok (.aload_n 0, 1) := by decide +kernel
theorem dX5_group_21 : decode cX5_group 21 = .ok (.getfield 28, 3) := by decide +kernel
theorem dX5_group_24 : decode cX5_group 24 = .ok (.iconst 0, 1) := by decide +kernel
theorem dX5_group_25 : decode cX5_group 25 = .ok (.invokevirtual 171, 3) := by decide +kernel
theorem dX5_group_28 : decode cX5_group 28 = .ok (.laload, 1) := by decide +kernel
theorem dX5_group_29 : decode cX5_group 29 = .ok (.lreturn, 1) := by decide +kernel
set_option maxRecDepth 20000 in
theorem ggX5_counted_X5_viewAt : GoodIn wsX5_counted wsX5_viewAt := goodIn_ca (goodIn_r _ [7, 8, 9, 10, 11, 86, 87, 88, 89, 90, 91, 92, 93, 94, 95] (by decide +kernel) (by decide +kernel)) (goodIn_sub (fun _ h => List.mem_cons_of_mem _ (List.mem_append_left _ (List.mem_append_right _ h))) (by decide +kernel))
set_option maxRecDepth 20000 in
theorem gX5_counted_X5_viewAt : GoodIn wsX5_counted (wsV RX5 149 RX5 yX5_viewAt wsX5_viewAt) := goodIn_app (goodIn_of _ (by decide +kernel)) ggX5_counted_X5_viewAt
set_option maxRecDepth 20000 in
theorem ggX5_counted_X5_rankGroup : GoodIn wsX5_counted wsX5_rankGroup := goodIn_ca (goodIn_ca (goodIn_r _ [15, 1, 16, 17, 6, 18, 8, 9, 19, 20, 21, 22, 23, 24, 25, 26, 27, 28, 29, 30, 31, 32, 33, 34, 35, 36, 37, 38, 39, 40, 41, 42, 43, 44, 45, 46, 47, 48, 49, 50, 51, 52, 53, 54, 55, 56, 57, 58, 59, 60, 61, 62, 63, 64, 65, 66, 67, 68, 69, 70, 71, 72, 73, 74, 75, 76, 77, 78, 79, 80, 81, 82, 83, 84, 85, 86, 87, 88, 89, 90, 91, 92, 93, 94, 95, 103, 104, 105, 106, 107, 108, 96, 97, 98, 99, 100, 101, 102, 109, 110, 111, 112, 113, 114, 115, 116] (by decide +kernel) (by decide +kernel)) (goodIn_sub (fun _ h => List.mem_cons_of_mem _ (List.mem_append_left _ (List.mem_append_right _ h))) (by decide +kernel))) (goodIn_sub (fun _ h => List.mem_cons_of_mem _ (List.mem_append_right _ h)) (by decide +kernel))
set_option maxRecDepth 20000 in
theorem gX5_counted_X5_rankGroup : GoodIn wsX5_counted (wsV RX5 180 RX5 yX5_rankGroup wsX5_rankGroup) := goodIn_app (goodIn_of _ (by decide +kernel)) ggX5_counted_X5_rankGroup
theorem dX5_counted_0 : decode cX5_counted 0 = .ok (.aload_n 0, 1) := by decide +kernel
theorem dX5_counted_1 : decode cX5_counted 1 = .ok (.aload_n 0, 1) := by decide +kernel
theorem dX5_counted_2 : decode cX5_counted 2 = .ok (.iload_n 1, 1) := by decide +kernel
theorem dX5_counted_3 : decode cX5_counted 3 = .ok (.invokevirtual 149, 3) := by decide +kernel
theorem dX5_counted_6 : decode cX5_counted 6 = .ok (.iload_n 2, 1) := by decide +kernel
theorem dX5_counted_7 : decode cX5_counted 7 = .ok (.lload_n 3, 1) := by decide +kernel
theorem dX5_counted_8 : decode cX5_counted 8 = .ok (.iload 5, 2) := by decide +kernel
theorem dX5_counted_10 : decode cX5_counted 10 = .ok (.invokevirtual 180, 3) := by decide +kernel
theorem dX5_counted_13 : decode cX5_counted 13 = .ok (.aload_n 0, 1) := by decide +kernel
theorem dX5_counted_14 : decode cX5_counted 14 = .ok (.getfield 28, 3) := by decide +kernel
theorem dX5_counted_17 : decode cX5_counted 17 = .ok (.getfield 184, 3) := by decide +kernel
theorem dX5_counted_20 : decode cX5_counted 20 = .ok (.ireturn, 1) := by decide +kernel
set_option maxRecDepth 20000 in
theorem ggX5_best_X5_viewAt : GoodIn wsX5_best wsX5_viewAt := goodIn_ca (goodIn_r _ [6, 7, 8, 9, 10, 90, 91, 92, 93, 94, 95, 96, 97, 98, 99] (by decide +kernel) (by decide +kernel)) (goodIn_sub (fun _ h => List.mem_cons_of_mem _ (List.mem_append_left _ (List.mem_append_left _ (List.mem_append_right _ h)))) (by decide +kernel))
set_option maxRecDepth 20000 in
theorem gX5_best_X5_viewAt : GoodIn wsX5_best (wsV RX5 149 RX5 yX5_viewAt wsX5_viewAt) := goodIn_app (goodIn_of _ (by decide +kernel)) ggX5_best_X5_viewAt
set_option maxRecDepth 20000 in
theorem ggX5_best_X5_rankGroup : GoodIn wsX5_best wsX5_rankGroup := goodIn_ca (goodIn_ca (goodIn_r _ [14, 1, 15, 16, 5, 17, 7, 8, 18, 19, 20, 21, 22, 23, 24, 25, 26, 27, 28, 29, 30, 31, 32, 33, 34, 35, 36, 37, 38, 39, 40, 41, 42, 43, 44, 45, 46, 47, 48, 49, 50, 51, 52, 53, 54, 55, 56, 57, 58, 59, 60, 61, 62, 63, 64, 65, 66, 67, 68, 69, 70, 71, 72, 73, 74, 75, 76, 77, 78, 79, 80, 81, 82, 83, 84, 90, 91, 92, 93, 94, 95, 96, 97, 98, 99, 100, 101, 102, 103, 104, 105, 106, 107, 108, 109, 110, 111, 112, 113, 114, 115, 116, 117, 118, 119, 120] (by decide +kernel) (by decide +kernel)) (goodIn_sub (fun _ h => List.mem_cons_of_mem _ (List.mem_append_left _ (List.mem_append_left _ (List.mem_append_right _ h)))) (by decide +kernel))) (goodIn_sub (fun _ h => List.mem_cons_of_mem _ (List.mem_append_left _ (List.mem_append_right _ h))) (by decide +kernel))
set_option maxRecDepth 20000 in
theorem gX5_best_X5_rankGroup : GoodIn wsX5_best (wsV RX5 180 RX5 yX5_rankGroup wsX5_rankGroup) := goodIn_app (goodIn_of _ (by decide +kernel)) ggX5_best_X5_rankGroup
set_option maxRecDepth 20000 in
theorem ggX5_best_X0_memberAt : GoodIn wsX5_best wsX0_memberAt := goodIn_ca (goodIn_r _ [88, 89, 8, 39, 40, 106, 107, 108, 109, 110, 111, 112] (by decide +kernel) (by decide +kernel)) (goodIn_sub (fun _ h => List.mem_cons_of_mem _ (List.mem_append_right _ h)) (by decide +kernel))
set_option maxRecDepth 20000 in
theorem gX5_best_X0_memberAt : GoodIn wsX5_best (wsV RX5 171 RX0 yX0_memberAt wsX0_memberAt) := goodIn_app (goodIn_of _ (by decide +kernel)) ggX5_best_X0_memberAt
theorem dX5_best_0 : decode cX5_best 0 = .ok (.aload_n 0, 1) := by decide +kernel
theorem dX5_best_1 : decode cX5_best 1 = .ok (.aload_n 0, 1) := by decide +kernel
theorem dX5_best_2 : decode cX5_best 2 = .ok (.iload_n 1, 1) := by decide +kernel
theorem dX5_best_3 : decode cX5_best 3 = .ok (.invokevirtual 149, 3) := by decide +kernel
theorem dX5_best_6 : decode cX5_best 6 = .ok (.iload_n 2, 1) := by decide +kernel
theorem dX5_best_7 : decode cX5_best 7 = .ok (.lload_n 3, 1) := by decide +kernel
theorem dX5_best_8 : decode cX5_best 8 = .ok (.iload 5, 2) := by decide +kernel
theorem dX5_best_10 : decode cX5_best 10 = .ok (.invokevirtual 180, 3) := by decide +kernel
theorem dX5_best_13 : decode cX5_best 13 = .ok (.aload_n 0, 1) := by decide +kernel
theorem dX5_best_14 : decode cX5_best 14 = .ok (.getfield 28, 3) := by decide +kernel
theorem dX5_best_17 : decode cX5_best 17 = .ok (.iload 6, 2) := by decide +kernel
theorem dX5_best_19 : decode cX5_best 19 = .ok (.invokevirtual 171, 3) := by decide +kernel
theorem dX5_best_22 : decode cX5_best 22 = .ok (.ireturn, 1) := by decide +kernel
set_option maxRecDepth 20000 in
theorem ggX5_cursor_X5_viewAt : GoodIn wsX5_cursor wsX5_viewAt := goodIn_ca (goodIn_r _ [12, 13, 14, 15, 16, 129, 130, 131, 132, 133, 134, 135, 136, 137, 138] (by decide +kernel) (by decide +kernel)) (goodIn_sub (fun _ h => List.mem_cons_of_mem _ (List.mem_append_left _ (List.mem_append_left _ (List.mem_append_right _ h)))) (by decide +kernel))
set_option maxRecDepth 20000 in
theorem gX5_cursor_X5_viewAt : GoodIn wsX5_cursor (wsV RX5 149 RX5 yX5_viewAt wsX5_viewAt) := goodIn_app (goodIn_of _ (by decide +kernel)) ggX5_cursor_X5_viewAt
set_option maxRecDepth 20000 in
theorem ggX5_cursor_X5_checkKind : GoodIn wsX5_cursor wsX5_checkKind := goodIn_ca (goodIn_r _ [19, 20, 21] (by decide +kernel) (by decide +kernel)) (goodIn_sub (fun _ h => List.mem_cons_of_mem _ (List.mem_append_left _ (List.mem_append_right _ h))) (by decide +kernel))
set_option maxRecDepth 20000 in
theorem gX5_cursor_X5_checkKind : GoodIn wsX5_cursor (va_wsS RX5 185 yX5_checkKind wsX5_checkKind) := goodIn_app (goodIn_of _ (by decide +kernel)) ggX5_cursor_X5_checkKind
set_option maxRecDepth 20000 in
theorem ggX5_cursor_X5_checkSlice : GoodIn wsX5_cursor wsX5_checkSlice := goodIn_ca (goodIn_r _ [24, 20, 21] (by decide +kernel) (by decide +kernel)) (goodIn_sub (fun _ h => List.mem_cons_of_mem _ (List.mem_append_left _ (List.mem_append_right _ h))) (by decide +kernel))
set_option maxRecDepth 20000 in
theorem gX5_cursor_X5_checkSlice : GoodIn wsX5_cursor (va_wsS RX5 188 yX5_checkSlice wsX5_checkSlice) := goodIn_app (goodIn_of _ (by decide +kernel)) ggX5_cursor_X5_checkSlice
set_option maxRecDepth 20000 in
theorem ggX5_cursor_X5_checkKeep : GoodIn wsX5_cursor wsX5_checkKeep := goodIn_ca (goodIn_r _ [27, 20, 21] (by decide +kernel) (by decide +kernel)) (goodIn_sub (fun _ h => List.mem_cons_of_mem _ (List.mem_append_left _ (List.mem_append_right _ h))) (by decide +kernel))
set_option maxRecDepth 20000 in
theorem gX5_cursor_X5_checkKeep : GoodIn wsX5_cursor (va_wsS RX5 192 yX5_checkKeep wsX5_checkKeep) := goodIn_app (goodIn_of _ (by decide +kernel)) ggX5_cursor_X5_checkKeep
set_option maxRecDepth 20000 in
theorem ggX5_cursor_X5_checkOpen : GoodIn wsX5_cursor wsX5_checkOpen := goodIn_ca (goodIn_r _ [30, 31, 32, 33, 146, 147, 148, 149, 150, 151] (by decide +kernel) (by decide +kernel)) (goodIn_sub (fun _ h => List.mem_cons_of_mem _ (List.mem_append_right _ h)) (by decide +kernel))
set_option maxRecDepth 20000 in
theorem gX5_cursor_X5_checkOpen : GoodIn wsX5_cursor (va_wsS RX5 153 yX5_checkOpen wsX5_checkOpen) := goodIn_app (goodIn_of _ (by decide +kernel)) ggX5_cursor_X5_checkOpen
set_option maxRecDepth 20000 in
theorem ggX5_cursor_X5_rankHits : GoodIn wsX5_cursor wsX5_rankHits := goodIn_ca (goodIn_r _ [37, 2, 38, 39, 17, 18, 11, 19, 20, 21, 40, 41, 42, 43, 44, 45, 46, 47, 48, 49, 50, 51, 52, 53, 54, 55, 56, 57, 58, 59, 60, 61, 62, 63, 64, 65, 66, 67, 68, 69, 70, 71, 72, 73, 74, 75, 76, 77, 78, 79, 80, 81, 82, 83, 129, 130, 131, 132, 133, 134, 135, 136, 137, 138, 146, 147, 148, 149, 150, 151, 152, 153, 154, 155, 156, 157, 158, 159, 160, 161, 162, 163, 164, 165, 166] (by decide +kernel) (by decide +kernel)) (goodIn_sub (fun _ h => List.mem_cons_of_mem _ (List.mem_append_left _ (List.mem_append_right _ h))) (by decide +kernel))
set_option maxRecDepth 20000 in
theorem gX5_cursor_X5_rankHits : GoodIn wsX5_cursor (wsV RX5 167 RX5 yX5_rankHits wsX5_rankHits) := goodIn_app (goodIn_of _ (by decide +kernel)) ggX5_cursor_X5_rankHits
set_option maxRecDepth 20000 in
theorem ggX5_cursor_X0_narrowToSlice : GoodIn wsX5_cursor wsX0_narrowToSlice := goodIn_r _ [87, 49, 65, 68, 50, 88, 89, 43, 90, 91, 70, 71, 72, 73, 74, 75, 152, 153, 154, 155, 156, 157, 158, 159, 160, 161, 162, 163, 164, 165, 166] (by decide +kernel) (by decide +kernel)
set_option maxRecDepth 20000 in
theorem gX5_cursor_X0_narrowToSlice : GoodIn wsX5_cursor (wsV RX5 195 RX0 yX0_narrowToSlice wsX0_narrowToSlice) := goodIn_app (goodIn_of _ (by decide +kernel)) ggX5_cursor_X0_narrowToSlice
set_option maxRecDepth 20000 in
theorem ggX5_cursor_X0_copyRow : GoodIn wsX5_cursor wsX0_copyRow := goodIn_r _ [95, 50, 49, 96, 97, 98, 99, 100, 101, 102, 103, 104, 105, 106, 107, 46, 47, 48, 108, 52, 53, 54, 152, 153, 154, 155, 156, 157, 158] (by decide +kernel) (by decide +kernel)
set_option maxRecDepth 20000 in
theorem gX5_cursor_X0_copyRow : GoodIn wsX5_cursor (wsV RX5 198 RX0 yX0_copyRow wsX0_copyRow) := goodIn_app (goodIn_of _ (by decide +kernel)) ggX5_cursor_X0_copyRow
set_option maxRecDepth 20000 in
theorem ggX5_cursor_X1_init : GoodIn wsX5_cursor wsX1_init := goodIn_r _ [111, 112, 113, 114, 115, 116, 117, 118, 119, 120, 121, 139, 140, 141, 142, 143, 144, 145] (by decide +kernel) (by decide +kernel)
set_option maxRecDepth 20000 in
theorem gX5_cursor_X1_init : GoodIn wsX5_cursor (wsX1_init) := ggX5_cursor_X1_init
set_option maxRecDepth 20000 in
theorem ggX5_cursor_X5_openReader : GoodIn wsX5_cursor wsX5_openReader := goodIn_r _ [125, 126, 1, 127, 128, 129, 130, 131, 132, 133, 134, 135, 136, 137, 138, 139, 140, 141, 142, 143, 144, 145, 146, 147, 148, 149, 150, 151] (by decide +kernel) (by decide +kernel)
set_option maxRecDepth 20000 in
theorem gX5_cursor_X5_openReader : GoodIn wsX5_cursor (wsV RX5 207 RX5 yX5_openReader wsX5_openReader) := goodIn_app (goodIn_of _ (by decide +kernel)) ggX5_cursor_X5_openReader
theorem dX5_cursor_0 : decode cX5_cursor 0 = .ok (.aload_n 0, 1) := by decide +kernel
theorem dX5_cursor_1 : decode cX5_cursor 1 = .ok (.iload_n 1, 1) := by decide +kernel
theorem dX5_cursor_2 : decode cX5_cursor 2 = .ok (.invokevirtual 149, 3) := by decide +kernel
theorem dX5_cursor_5 : decode cX5_cursor 5 = .ok (.astore 8, 2) := by decide +kernel
theorem dX5_cursor_7 : decode cX5_cursor 7 = .ok (.iload_n 2, 1) := by decide +kernel
theorem dX5_cursor_8 : decode cX5_cursor 8 = .ok (.invokestatic 185, 3) := by decide +kernel
theorem dX5_cursor_11 : decode cX5_cursor 11 = .ok (.iload 5, 2) := by decide +kernel
theorem dX5_cursor_13 : decode cX5_cursor 13 = .ok (.iload 6, 2) := by decide +kernel
theorem dX5_cursor_15 : decode cX5_cursor 15 = .ok (.invokestatic 188, 3) := by decide +kernel
theorem dX5_cursor_18 : decode cX5_cursor 18 = .ok (.iload 7, 2) := by decide +kernel
theorem dX5_cursor_20 : decode cX5_cursor 20 = .ok (.invokestatic 192, 3) := by decide +kernel
theorem dX5_cursor_23 : decode cX5_cursor 23 = .ok (.aload 8, 2) := by decide +kernel
theorem dX5_cursor_25 : decode cX5_cursor 25 = .ok (.invokestatic 153, 3) := by decide +kernel
theorem dX5_cursor_28 : decode cX5_cursor 28 = .ok (.aload_n 0, 1) := by decide +kernel
theorem dX5_cursor_29 : decode cX5_cursor 29 = .ok (.getfield 48, 3) := by decide +kernel
theorem dX5_cursor_32 : decode cX5_cursor 32 = .ok (.bipush 60, 2) := by decide +kernel
theorem dX5_cursor_34 : decode cX5_cursor 34 = .ok (.if_icmp .lt 6, 3) := by decide +kernel
theorem dX5_cursor_37 : decode cX5_cursor 37 = .ok (.bipush (-4), 2) := by decide +kernel
theorem dX5_cursor_39 : decode cX5_cursor 39 = .ok (.ireturn, 1) := by decide +kernel
theorem dX5_cursor_40 : decode cX5_cursor 40 = .ok (.aload_n 0, 1) := by decide +kernel
theorem dX5_cursor_41 : decode cX5_cursor 41 = .ok (.aload 8, 2) := by decide +kernel
theorem dX5_cursor_43 : decode cX5_cursor 43 = .ok (.iload_n 2, 1) := by decide +kernel
theorem dX5_cursor_44 : decode cX5_cursor 44 = .ok (.lload_n 3, 1) := by decide +kernel
theorem dX5_cursor_45 : decode cX5_cursor 45 = .ok (.invokevirtual 167, 3) := by decide +kernel
theorem dX5_cursor_48 : decode cX5_cursor 48 = .ok (.aload_n 0, 1) := by decide +kernel
theorem dX5_cursor_49 : decode cX5_cursor 49 = .ok (.getfield 28, 3) := by decide +kernel
theorem dX5_cursor_52 : decode cX5_cursor 52 = .ok (.iload 5, 2) := by decide +kernel
theorem dX5_cursor_54 : decode cX5_cursor 54 = .ok (.iload 6, 2) := by decide +kernel
theorem dX5_cursor_56 : decode cX5_cursor 56 = .ok (.invokevirtual 195, 3) := by decide +kernel
theorem dX5_cursor_59 : decode cX5_cursor 59 = .ok (.new 42, 3) := by decide +kernel
theorem dX5_cursor_62 : decode cX5_cursor 62 = .ok (.dup, 1) := by decide +kernel
theorem dX5_cursor_63 : decode cX5_cursor 63 = .ok (.aload 8, 2) := by decide +kernel
theorem dX5_cursor_65 : decode cX5_cursor 65 = .ok (.aload_n 0, 1) := by decide +kernel
theorem dX5_cursor_66 : decode cX5_cursor 66 = .ok (.getfield 28, 3) := by decide +kernel
theorem dX5_cursor_69 : decode cX5_cursor 69 = .ok (.invokevirtual 198, 3) := by decide +kernel
theorem dX5_cursor_72 : decode cX5_cursor 72 = .ok (.iconst 1, 1) := by decide +kernel
theorem dX5_cursor_73 : decode cX5_cursor 73 = .ok (.iload 7, 2) := by decide +kernel
theorem dX5_cursor_75 : decode cX5_cursor 75 = .ok (.invokespecial 201, 3) := by decide +kernel
theorem dX5_cursor_78 : decode cX5_cursor 78 = .ok (.astore 9, 2) := by decide +kernel
theorem dX5_cursor_80 : decode cX5_cursor 80 = .ok (.aload 9, 2) := by decide +kernel
theorem dX5_cursor_82 : decode cX5_cursor 82 = .ok (.aload_n 0, 1) := by decide +kernel
theorem dX5_cursor_83 : decode cX5_cursor 83 = .ok (.getfield 58, 3) := by decide +kernel
theorem dX5_cursor_86 : decode cX5_cursor 86 = .ok (.iload 7, 2) := by decide +kernel
theorem dX5_cursor_88 : decode cX5_cursor 88 = .ok (.iadd, 1) := by decide +kernel
theorem dX5_cursor_89 : decode cX5_cursor 89 = .ok (.putfield 204, 3) := by decide +kernel
theorem dX5_cursor_92 : decode cX5_cursor 92 = .ok (.aload_n 0, 1) := by decide +kernel
theorem dX5_cursor_93 : decode cX5_cursor 93 = .ok (.aload 9, 2) := by decide +kernel
theorem dX5_cursor_95 : decode cX5_cursor 95 = .ok (.invokevirtual 207, 3) := by decide +kernel
theorem dX5_cursor_98 : decode cX5_cursor 98 = .ok (.ireturn, 1) := by decide +kernel
set_option maxRecDepth 20000 in
theorem ggX5_iterator_X5_viewAt : GoodIn wsX5_iterator wsX5_viewAt := goodIn_ca (goodIn_r _ [10, 11, 12, 13, 14, 158, 159, 160, 161, 162, 163, 164, 165, 166, 167] (by decide +kernel) (by decide +kernel)) (goodIn_sub (fun _ h => List.mem_cons_of_mem _ (List.mem_append_left _ (List.mem_append_left _ (List.mem_append_right _ h)))) (by decide +kernel))
set_option maxRecDepth 20000 in
theorem gX5_iterator_X5_viewAt : GoodIn wsX5_iterator (wsV RX5 149 RX5 yX5_viewAt wsX5_viewAt) := goodIn_app (goodIn_of _ (by decide +kernel)) ggX5_iterator_X5_viewAt
set_option maxRecDepth 20000 in
theorem ggX5_iterator_X5_checkGroup : GoodIn wsX5_iterator wsX5_checkGroup := goodIn_ca (goodIn_r _ [17, 11, 12, 18, 175, 176, 177, 178, 179, 180] (by decide +kernel) (by decide +kernel)) (goodIn_sub (fun _ h => List.mem_cons_of_mem _ (List.mem_append_left _ (List.mem_append_left _ (List.mem_append_right _ h)))) (by decide +kernel))
set_option maxRecDepth 20000 in
theorem gX5_iterator_X5_checkGroup : GoodIn wsX5_iterator (va_wsS RX5 211 yX5_checkGroup wsX5_checkGroup) := goodIn_app (goodIn_of _ (by decide +kernel)) ggX5_iterator_X5_checkGroup
set_option maxRecDepth 20000 in
theorem ggX5_iterator_X5_checkKind : GoodIn wsX5_iterator wsX5_checkKind := goodIn_ca (goodIn_r _ [21, 22, 23] (by decide +kernel) (by decide +kernel)) (goodIn_sub (fun _ h => List.mem_cons_of_mem _ (List.mem_append_left _ (List.mem_append_right _ h))) (by decide +kernel))
set_option maxRecDepth 20000 in
theorem gX5_iterator_X5_checkKind : GoodIn wsX5_iterator (va_wsS RX5 185 yX5_checkKind wsX5_checkKind) := goodIn_app (goodIn_of _ (by decide +kernel)) ggX5_iterator_X5_checkKind
set_option maxRecDepth 20000 in
theorem ggX5_iterator_X5_checkOpen : GoodIn wsX5_iterator wsX5_checkOpen := goodIn_ca (goodIn_r _ [26, 27, 28, 29, 175, 176, 177, 178, 179, 180] (by decide +kernel) (by decide +kernel)) (goodIn_sub (fun _ h => List.mem_cons_of_mem _ (List.mem_append_right _ h)) (by decide +kernel))
set_option maxRecDepth 20000 in
theorem gX5_iterator_X5_checkOpen : GoodIn wsX5_iterator (va_wsS RX5 153 yX5_checkOpen wsX5_checkOpen) := goodIn_app (goodIn_of _ (by decide +kernel)) ggX5_iterator_X5_checkOpen
set_option maxRecDepth 20000 in
theorem ggX5_iterator_X5_rankHits : GoodIn wsX5_iterator wsX5_rankHits := goodIn_ca (goodIn_r _ [33, 2, 34, 35, 19, 20, 9, 21, 22, 23, 36, 37, 38, 39, 40, 41, 42, 43, 44, 45, 46, 47, 48, 49, 50, 51, 52, 53, 54, 55, 56, 57, 58, 59, 60, 61, 62, 63, 64, 65, 66, 67, 68, 69, 70, 71, 72, 73, 74, 75, 76, 77, 78, 79, 158, 159, 160, 161, 162, 163, 164, 165, 166, 167, 175, 176, 177, 178, 179, 180, 181, 182, 183, 184, 185, 186, 187, 188, 189, 190, 191, 192, 193, 194, 195] (by decide +kernel) (by decide +kernel)) (goodIn_sub (fun _ h => List.mem_cons_of_mem _ (List.mem_append_left _ (List.mem_append_right _ h))) (by decide +kernel))
set_option maxRecDepth 20000 in
theorem gX5_iterator_X5_rankHits : GoodIn wsX5_iterator (wsV RX5 167 RX5 yX5_rankHits wsX5_rankHits) := goodIn_app (goodIn_of _ (by decide +kernel)) ggX5_iterator_X5_rankHits
set_option maxRecDepth 20000 in
theorem ggX5_iterator_X0_narrowToGroup : GoodIn wsX5_iterator wsX0_narrowToGroup := goodIn_r _ [83, 84, 45, 61, 85, 46, 86, 87, 88, 39, 89, 90, 181, 182, 183, 184, 185, 186, 187, 188, 189, 190, 191, 192, 193, 194, 195] (by decide +kernel) (by decide +kernel)
set_option maxRecDepth 20000 in
theorem gX5_iterator_X0_narrowToGroup : GoodIn wsX5_iterator (wsV RX5 215 RX0 yX0_narrowToGroup wsX0_narrowToGroup) := goodIn_app (goodIn_of _ (by decide +kernel)) ggX5_iterator_X0_narrowToGroup
set_option maxRecDepth 20000 in
theorem ggX5_iterator_X0_copyRow : GoodIn wsX5_iterator wsX0_copyRow := goodIn_r _ [94, 46, 45, 95, 96, 97, 98, 99, 100, 101, 102, 103, 104, 105, 106, 42, 43, 44, 107, 48, 49, 50, 181, 182, 183, 184, 185, 186, 187] (by decide +kernel) (by decide +kernel)
set_option maxRecDepth 20000 in
theorem gX5_iterator_X0_copyRow : GoodIn wsX5_iterator (wsV RX5 198 RX0 yX0_copyRow wsX0_copyRow) := goodIn_app (goodIn_of _ (by decide +kernel)) ggX5_iterator_X0_copyRow
set_option maxRecDepth 20000 in
theorem ggX5_iterator_X1_init : GoodIn wsX5_iterator wsX1_init := goodIn_r _ [110, 111, 112, 113, 114, 115, 116, 117, 118, 119, 120, 168, 169, 170, 171, 172, 173, 174] (by decide +kernel) (by decide +kernel)
set_option maxRecDepth 20000 in
theorem gX5_iterator_X1_init : GoodIn wsX5_iterator (wsX1_init) := ggX5_iterator_X1_init
set_option maxRecDepth 20000 in
theorem ggX5_iterator_X5_openReader : GoodIn wsX5_iterator wsX5_openReader := goodIn_r _ [124, 125, 1, 126, 127, 158, 159, 160, 161, 162, 163, 164, 165, 166, 167, 168, 169, 170, 171, 172, 173, 174, 175, 176, 177, 178, 179, 180] (by decide +kernel) (by decide +kernel)
set_option maxRecDepth 20000 in
theorem gX5_iterator_X5_openReader : GoodIn wsX5_iterator (wsV RX5 207 RX5 yX5_openReader wsX5_openReader) := goodIn_app (goodIn_of _ (by decide +kernel)) ggX5_iterator_X5_openReader
set_option maxRecDepth 20000 in
theorem ggX5_iterator_X5_endIfAllGiven : GoodIn wsX5_iterator wsX5_endIfAllGiven := goodIn_r _ [131, 132, 133, 134, 5, 135, 118, 114, 136, 137, 138, 9, 139, 140, 126, 127, 141, 142, 143, 144, 29, 35, 18, 145, 146, 147, 148, 149, 150, 151, 152, 153, 154, 155, 156, 157, 168, 169, 170, 171, 172, 173, 174, 175, 176, 177, 178, 179, 180, 158, 159, 160, 161, 162, 163, 164, 165, 166, 167, 196, 197, 198] (by decide +kernel) (by decide +kernel)
set_option maxRecDepth 20000 in
theorem gX5_iterator_X5_endIfAllGiven : GoodIn wsX5_iterator (wsV RX5 218 RX5 yX5_endIfAllGiven wsX5_endIfAllGiven) := goodIn_app (goodIn_of _ (by decide +kernel)) ggX5_iterator_X5_endIfAllGiven
theorem dX5_iterator_0 : decode cX5_iterator 0 = .ok (.aload_n 0, 1) := by decide +kernel
theorem dX5_iterator_1 : decode cX5_iterator 1 = .ok (.iload_n 1, 1) := by decide +kernel
theorem dX5_iterator_2 : decode cX5_iterator 2 = .ok (.invokevirtual 149, 3) := by decide +kernel
theorem dX5_iterator_5 : decode cX5_iterator 5 = .ok (.astore 6, 2) := by decide +kernel
theorem dX5_iterator_7 : decode cX5_iterator 7 = .ok (.iload 5, 2) := by decide +kernel
theorem dX5_iterator_9 : decode cX5_iterator 9 = .ok (.iconst (-1), 1) := by decide +kernel
theorem dX5_iterator_10 : decode cX5_iterator 10 = .ok (.if_icmp .eq 10, 3) := by decide +kernel
theorem dX5_iterator_13 : decode cX5_iterator 13 = .ok (.aload 6, 2) := by decide +kernel
theorem dX5_iterator_15 : decode cX5_iterator 15 = .ok (.iload 5, 2) := by decide +kernel
theorem dX5_iterator_17 : decode cX5_iterator 17 = .ok (.invokestatic 211, 3) := by decide +kernel
theorem dX5_iterator_20 : decode cX5_iterator 20 = .ok (.iload_n 2, 1) := by decide +kernel
theorem dX5_iterator_21 : decode cX5_iterator 21 = .ok (.invokestatic 185, 3) := by decide +kernel
theorem dX5_iterator_24 : decode cX5_iterator 24 = .ok (.aload 6, 2) := by decide +kernel
theorem dX5_iterator_26 : decode cX5_iterator 26 = .ok (.invokestatic 153, 3) := by decide +kernel
theorem dX5_iterator_29 : decode cX5_iterator 29 = .ok (.aload_n 0, 1) := by decide +kernel
theorem dX5_iterator_30 : decode cX5_iterator 30 = .ok (.getfield 48, 3) := by decide +kernel
theorem dX5_iterator_33 : decode cX5_iterator 33 = .ok (.bipush 60, 2) := by decide +kernel
theorem dX5_iterator_35 : decode cX5_iterator 35 = .ok (.if_icmp .lt 6, 3) := by decide +kernel
theorem dX5_iterator_38 : decode cX5_iterator 38 = .ok (.bipush (-4), 2) := by decide +kernel
theorem dX5_iterator_40 : decode cX5_iterator 40 = .ok (.ireturn, 1) := by decide +kernel
theorem dX5_iterator_41 : decode cX5_iterator 41 = .ok (.aload_n 0, 1) := by decide +kernel
theorem dX5_iterator_42 : decode cX5_iterator 42 = .ok (.aload 6, 2) := by decide +kernel
theorem dX5_iterator_44 : decode cX5_iterator 44 = .ok (.iload_n 2, 1) := by decide +kernel
theorem dX5_iterator_45 : decode cX5_iterator 45 = .ok (.lload_n 3, 1) := by decide +kernel
theorem dX5_iterator_46 : decode cX5_iterator 46 = .ok (.invokevirtual 167, 3) := by decide +kernel
theorem dX5_iterator_49 : decode cX5_iterator 49 = .ok (.iload 5, 2) := by decide +kernel
theorem dX5_iterator_51 : decode cX5_iterator 51 = .ok (.iconst (-1), 1) := by decide +kernel
theorem dX5_iterator_52 : decode cX5_iterator 52 = .ok (.if_icmp .eq 12, 3) := by decide +kernel
theorem dX5_iterator_55 : decode cX5_iterator 55 = .ok (.aload_n 0, 1) := by decide +kernel
theorem dX5_iterator_56 : decode cX5_iterator 56 = .ok (.getfield 28, 3) := by decide +kernel
theorem dX5_iterator_59 : decode cX5_iterator 59 = .ok (.iload 5, 2) := by decide +kernel
theorem dX5_iterator_61 : decode cX5_iterator 61 = .ok (.invokevirtual 215, 3) := by decide +kernel
theorem dX5_iterator_64 : decode cX5_iterator 64 = .ok (.new 42, 3) := by decide +kernel
theorem dX5_iterator_67 : decode cX5_iterator 67 = .ok (.dup, 1) := by decide +kernel
theorem dX5_iterator_68 : decode cX5_iterator 68 = .ok (.aload 6, 2) := by decide +kernel
theorem dX5_iterator_70 : decode cX5_iterator 70 = .ok (.aload_n 0, 1) := by decide +kernel
theorem dX5_iterator_71 : decode cX5_iterator 71 = .ok (.getfield 28, 3) := by decide +kernel
theorem dX5_iterator_74 : decode cX5_iterator 74 = .ok (.invokevirtual 198, 3) := by decide +kernel
theorem dX5_iterator_77 : decode cX5_iterator 77 = .ok (.iconst 0, 1) := by decide +kernel
theorem dX5_iterator_78 : decode cX5_iterator 78 = .ok (.iconst 0, 1) := by decide +kernel
theorem dX5_iterator_79 : decode cX5_iterator 79 = .ok (.invokespecial 201, 3) := by decide +kernel
theorem dX5_iterator_82 : decode cX5_iterator 82 = .ok (.astore 7, 2) := by decide +kernel
theorem dX5_iterator_84 : decode cX5_iterator 84 = .ok (.aload_n 0, 1) := by decide +kernel
theorem dX5_iterator_85 : decode cX5_iterator 85 = .ok (.aload 7, 2) := by decide +kernel
theorem dX5_iterator_87 : decode cX5_iterator 87 = .ok (.invokevirtual 207, 3) := by decide +kernel
theorem dX5_iterator_90 : decode cX5_iterator 90 = .ok (.istore 8, 2) := by decide +kernel
theorem dX5_iterator_92 : decode cX5_iterator 92 = .ok (.aload_n 0, 1) := by decide +kernel
theorem dX5_iterator_93 : decode cX5_iterator 93 = .ok (.aload 7, 2) := by decide +kernel
theorem dX5_iterator_95 : decode cX5_iterator 95 = .ok (.invokevirtual 218, 3) := by decide +kernel
theorem dX5_iterator_98 : decode cX5_iterator 98 = .ok (.iload 8, 2) := by decide +kernel
theorem dX5_iterator_100 : decode cX5_iterator 100 = .ok (.ireturn, 1) := by decide +kernel
set_option maxRecDepth 20000 in
theorem ggX5_take_X5_readerAt : GoodIn wsX5_take wsX5_readerAt := goodIn_ca (goodIn_r _ [24, 25, 26, 27, 28, 43, 44, 45, 46, 47, 48, 49, 50, 51, 52] (by decide +kernel) (by decide +kernel)) (goodIn_sub (fun _ h => List.mem_cons_of_mem _ (List.mem_append_right _ h)) (by decide +kernel))
set_option maxRecDepth 20000 in
theorem gX5_take_X5_readerAt : GoodIn wsX5_take (wsV RX5 222 RX5 yX5_readerAt wsX5_readerAt) := goodIn_app (goodIn_of _ (by decide +kernel)) ggX5_take_X5_readerAt
set_option maxRecDepth 20000 in
theorem ggX5_take_X1_countLeft : GoodIn wsX5_take wsX1_countLeft := goodIn_r _ [33, 34, 35, 36, 37, 38, 39, 40, 41, 42] (by decide +kernel) (by decide +kernel)
set_option maxRecDepth 20000 in
theorem gX5_take_X1_countLeft : GoodIn wsX5_take (wsV RX5 240 RX1 yX1_countLeft wsX1_countLeft) := goodIn_app (goodIn_of _ (by decide +kernel)) ggX5_take_X1_countLeft
theorem dX5_take_0 : decode cX5_take 0 = .ok (.aload_n 0, 1) := by decide +kernel
theorem dX5_take_1 : decode cX5_take 1 = .ok (.iload_n 1, 1) := by decide +kernel
theorem dX5_take_2 : decode cX5_take 2 = .ok (.invokevirtual 222, 3) := by decide +kernel
theorem dX5_take_5 : decode cX5_take 5 = .ok (.astore_n 3, 1) := by decide +kernel
theorem dX5_take_6 : decode cX5_take 6 = .ok (.iload_n 2, 1) := by decide +kernel
theorem dX5_take_7 : decode cX5_take 7 = .ok (.iconst 1, 1) := by decide +kernel
theorem dX5_take_8 : decode cX5_take 8 = .ok (.if_icmp .lt 9, 3) := by decide +kernel
theorem dX5_take_11 : decode cX5_take 11 = .ok (.iload_n 2, 1) := by decide +kernel
theorem dX5_take_12 : decode cX5_take 12 = .ok (.bipush 50, 2) := by decide +kernel
theorem dX5_take_14 : decode cX5_take 14 = .ok (.if_icmp .le 13, 3) := by decide +kernel
theorem dX5_take_17 : decode cX5_take 17 = .ok (.new 226, 3) := by decide +kernel
theorem dX5_take_20 : decode cX5_take 20 = .ok (.dup, 1) := by decide +kernel
theorem dX5_take_21 : decode cX5_take 21 = .ok (.ldc 228, 2) := by decide +kernel
theorem dX5_take_23 : decode cX5_take 23 = .ok (.invokespecial 230, 3) := by decide +kernel
theorem dX5_take_26 : decode cX5_take 26 = .ok (.athrow, 1) := by decide +kernel
theorem dX5_take_27 : decode cX5_take 27 = .ok (.aload_n 3, 1) := by decide +kernel
theorem dX5_take_28 : decode cX5_take 28 = .ok (.getfield 231, 3) := by decide +kernel
theorem dX5_take_31 : decode cX5_take 31 = .ok (.ifCond .ne 13, 3) := by decide +kernel
theorem dX5_take_34 : decode cX5_take 34 = .ok (.new 226, 3) := by decide +kernel
theorem dX5_take_37 : decode cX5_take 37 = .ok (.dup, 1) := by decide +kernel
theorem dX5_take_38 : decode cX5_take 38 = .ok (.ldc 235, 2) := by decide +kernel
theorem dX5_take_40 : decode cX5_take 40 = .ok (.invokespecial 230, 3) := by decide +kernel
theorem dX5_take_43 : decode cX5_take 43 = .ok (.athrow, 1) := by decide +kernel
theorem dX5_take_44 : decode cX5_take 44 = .ok (.aload_n 3, 1) := by decide +kernel
theorem dX5_take_45 : decode cX5_take 45 = .ok (.getfield 237, 3) := by decide +kernel
theorem dX5_take_48 : decode cX5_take 48 = .ok (.ifCond .eq 5, 3) := by decide +kernel
theorem dX5_take_51 : decode cX5_take 51 = .ok (.iconst (-1), 1) := by decide +kernel
theorem dX5_take_52 : decode cX5_take 52 = .ok (.ireturn, 1) := by decide +kernel
theorem dX5_take_53 : decode cX5_take 53 = .ok (.aload_n 0, 1) := by decide +kernel
theorem dX5_take_54 : decode cX5_take 54 = .ok (.iload_n 2, 1) := by decide +kernel
theorem dX5_take_55 : decode cX5_take 55 = .ok (.aload_n 3, 1) := by decide +kernel
theorem dX5_take_56 : decode cX5_take 56 = .ok (.invokevirtual 240, 3) := by decide +kernel
theorem dX5_take_59 : decode cX5_take 59 = .ok (.invokestatic 243, 3) := by decide +kernel
theorem dX5_take_62 : decode cX5_take 62 = .ok (.putfield 55, 3) := by decide +kernel
theorem dX5_take_65 : decode cX5_take 65 = .ok (.aload_n 3, 1) := by decide +kernel
theorem dX5_take_66 : decode cX5_take 66 = .ok (.getfield 248, 3) := by decide +kernel
theorem dX5_take_69 : decode cX5_take 69 = .ok (.aload_n 3, 1) := by decide +kernel
theorem dX5_take_70 : decode cX5_take 70 = .ok (.getfield 251, 3) := by decide +kernel
theorem dX5_take_73 : decode cX5_take 73 = .ok (.aload_n 0, 1) := by decide +kernel
theorem dX5_take_74 : decode cX5_take 74 = .ok (.getfield 51, 3) := by decide +kernel
theorem dX5_take_77 : decode cX5_take 77 = .ok (.iconst 0, 1) := by decide +kernel
theorem dX5_take_78 : decode cX5_take 78 = .ok (.aload_n 0, 1) := by decide +kernel
theorem dX5_take_79 : decode cX5_take 79 = .ok (.getfield 55, 3) := by decide +kernel
theorem dX5_take_82 : decode cX5_take 82 = .ok (.invokestatic 254, 3) := by decide +kernel
theorem dX5_take_85 : decode cX5_take 85 = .ok (.aload_n 3, 1) := by decide +kernel
theorem dX5_take_86 : decode cX5_take 86 = .ok (.dup, 1) := by decide +kernel
theorem dX5_take_87 : decode cX5_take 87 = .ok (.getfield 251, 3) := by decide +kernel
theorem dX5_take_90 : decode cX5_take 90 = .ok (.aload_n 0, 1) := by decide +kernel
theorem dX5_take_91 : decode cX5_take 91 = .ok (.getfield 55, 3) := by decide +kernel
theorem dX5_take_94 : decode cX5_take 94 = .ok (.iadd, 1) := by decide +kernel
theorem dX5_take_95 : decode cX5_take 95 = .ok (.putfield 251, 3) := by decide +kernel
theorem dX5_take_98 : decode cX5_take 98 = .ok (.aload_n 3, 1) := by decide +kernel
theorem dX5_take_99 : decode cX5_take 99 = .ok (.aload_n 0, 1) := by decide +kernel
theorem dX5_take_100 : decode cX5_take 100 = .ok (.getfield 58, 3) := by decide +kernel
theorem dX5_take_103 : decode cX5_take 103 = .ok (.aload_n 3, 1) := by decide +kernel
theorem dX5_take_104 : decode cX5_take 104 = .ok (.getfield 260, 3) := by decide +kernel
theorem dX5_take_107 : decode cX5_take 107 = .ok (.iadd, 1) := by decide +kernel
theorem dX5_take_108 : decode cX5_take 108 = .ok (.putfield 204, 3) := by decide +kernel
theorem dX5_take_111 : decode cX5_take 111 = .ok (.aload_n 0, 1) := by decide +kernel
theorem dX5_take_112 : decode cX5_take 112 = .ok (.getfield 55, 3) := by decide +kernel
theorem dX5_take_115 : decode cX5_take 115 = .ok (.ireturn, 1) := by decide +kernel
theorem dX5_page_0 : decode cX5_page 0 = .ok (.iload_n 1, 1) := by decide +kernel
theorem dX5_page_1 : decode cX5_page 1 = .ok (.ifCond .lt 11, 3) := by decide +kernel
theorem dX5_page_4 : decode cX5_page 4 = .ok (.iload_n 1, 1) := by decide +kernel
theorem dX5_page_5 : decode cX5_page 5 = .ok (.aload_n 0, 1) := by decide +kernel
theorem dX5_page_6 : decode cX5_page 6 = .ok (.getfield 55, 3) := by decide +kernel
theorem dX5_page_9 : decode cX5_page 9 = .ok (.if_icmp .lt 14, 3) := by decide +kernel
theorem dX5_page_12 : decode cX5_page 12 = .ok (.new 116, 3) := by decide +kernel
theorem dX5_page_15 : decode cX5_page 15 = .ok (.dup, 1) := by decide +kernel
theorem dX5_page_16 : decode cX5_page 16 = .ok (.ldc_w 263, 3) := by decide +kernel
theorem dX5_page_19 : decode cX5_page 19 = .ok (.invokespecial 120, 3) := by decide +kernel
theorem dX5_page_22 : decode cX5_page 22 = .ok (.athrow, 1) := by decide +kernel
theorem dX5_page_23 : decode cX5_page 23 = .ok (.aload_n 0, 1) := by decide +kernel
theorem dX5_page_24 : decode cX5_page 24 = .ok (.getfield 51, 3) := by decide +kernel
theorem dX5_page_27 : decode cX5_page 27 = .ok (.iload_n 1, 1) := by decide +kernel
theorem dX5_page_28 : decode cX5_page 28 = .ok (.iaload, 1) := by decide +kernel
theorem dX5_page_29 : decode cX5_page 29 = .ok (.ireturn, 1) := by decide +kernel
set_option maxRecDepth 20000 in
theorem ggX5_next_X5_readerAt : GoodIn wsX5_next wsX5_readerAt := goodIn_ca (goodIn_r _ [13, 14, 15, 16, 17, 62, 63, 64, 65, 66, 67, 68, 69, 70, 71] (by decide +kernel) (by decide +kernel)) (goodIn_sub (fun _ h => List.mem_cons_of_mem _ (List.mem_append_right _ h)) (by decide +kernel))
set_option maxRecDepth 20000 in
theorem gX5_next_X5_readerAt : GoodIn wsX5_next (wsV RX5 222 RX5 yX5_readerAt wsX5_readerAt) := goodIn_app (goodIn_of _ (by decide +kernel)) ggX5_next_X5_readerAt
set_option maxRecDepth 20000 in
theorem ggX5_next_X1_countLeft : GoodIn wsX5_next wsX1_countLeft := goodIn_r _ [22, 23, 24, 55, 56, 57, 58, 59, 60, 61] (by decide +kernel) (by decide +kernel)
set_option maxRecDepth 20000 in
theorem gX5_next_X1_countLeft : GoodIn wsX5_next (wsV RX5 240 RX1 yX1_countLeft wsX1_countLeft) := goodIn_app (goodIn_of _ (by decide +kernel)) ggX5_next_X1_countLeft
set_option maxRecDepth 20000 in
theorem ggX5_next_X5_endIfAllGiven : GoodIn wsX5_next wsX5_endIfAllGiven := goodIn_r _ [28, 18, 19, 20, 21, 22, 23, 24, 29, 30, 31, 12, 32, 6, 33, 34, 35, 36, 37, 38, 39, 40, 41, 42, 43, 44, 45, 46, 47, 48, 49, 50, 51, 52, 53, 54, 55, 56, 57, 58, 59, 60, 61, 72, 73, 74, 75, 76, 77, 62, 63, 64, 65, 66, 67, 68, 69, 70, 71, 78, 79, 80] (by decide +kernel) (by decide +kernel)
