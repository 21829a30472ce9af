theorem dX0_init_0 : decode cX0_init 0 = .ok (.aload_n 0, 1) := by decide +kernel
theorem dX0_init_1 : decode cX0_init 1 = .ok (.invokespecial 3, 3) := by decide +kernel
theorem dX0_init_4 : decode cX0_init 4 = .ok (.aload_n 0, 1) := by decide +kernel
theorem dX0_init_5 : decode cX0_init 5 = .ok (.bipush 10, 2) := by decide +kernel
theorem dX0_init_7 : decode cX0_init 7 = .ok (.newarray .int, 2) := by decide +kernel
theorem dX0_init_9 : decode cX0_init 9 = .ok (.putfield 9, 3) := by decide +kernel
theorem dX0_init_12 : decode cX0_init 12 = .ok (.aload_n 0, 1) := by decide +kernel
theorem dX0_init_13 : decode cX0_init 13 = .ok (.bipush 10, 2) := by decide +kernel
theorem dX0_init_15 : decode cX0_init 15 = .ok (.newarray .int, 2) := by decide +kernel
theorem dX0_init_17 : decode cX0_init 17 = .ok (.putfield 15, 3) := by decide +kernel
theorem dX0_init_20 : decode cX0_init 20 = .ok (.aload_n 0, 1) := by decide +kernel
theorem dX0_init_21 : decode cX0_init 21 = .ok (.bipush 16, 2) := by decide +kernel
theorem dX0_init_23 : decode cX0_init 23 = .ok (.newarray .int, 2) := by decide +kernel
theorem dX0_init_25 : decode cX0_init 25 = .ok (.putfield 18, 3) := by decide +kernel
theorem dX0_init_28 : decode cX0_init 28 = .ok (.aload_n 0, 1) := by decide +kernel
theorem dX0_init_29 : decode cX0_init 29 = .ok (.bipush 16, 2) := by decide +kernel
theorem dX0_init_31 : decode cX0_init 31 = .ok (.newarray .int, 2) := by decide +kernel
theorem dX0_init_33 : decode cX0_init 33 = .ok (.putfield 21, 3) := by decide +kernel
theorem dX0_init_36 : decode cX0_init 36 = .ok (.aload_n 0, 1) := by decide +kernel
theorem dX0_init_37 : decode cX0_init 37 = .ok (.bipush 16, 2) := by decide +kernel
theorem dX0_init_39 : decode cX0_init 39 = .ok (.newarray .int, 2) := by decide +kernel
theorem dX0_init_41 : decode cX0_init 41 = .ok (.putfield 24, 3) := by decide +kernel
theorem dX0_init_44 : decode cX0_init 44 = .ok (.aload_n 0, 1) := by decide +kernel
theorem dX0_init_45 : decode cX0_init 45 = .ok (.bipush 16, 2) := by decide +kernel
theorem dX0_init_47 : decode cX0_init 47 = .ok (.newarray .int, 2) := by decide +kernel
theorem dX0_init_49 : decode cX0_init 49 = .ok (.putfield 27, 3) := by decide +kernel
theorem dX0_init_52 : decode cX0_init 52 = .ok (.aload_n 0, 1) := by decide +kernel
theorem dX0_init_53 : decode cX0_init 53 = .ok (.bipush 12, 2) := by decide +kernel
theorem dX0_init_55 : decode cX0_init 55 = .ok (.newarray .int, 2) := by decide +kernel
theorem dX0_init_57 : decode cX0_init 57 = .ok (.putfield 30, 3) := by decide +kernel
theorem dX0_init_60 : decode cX0_init 60 = .ok (.aload_n 0, 1) := by decide +kernel
theorem dX0_init_61 : decode cX0_init 61 = .ok (.bipush 12, 2) := by decide +kernel
theorem dX0_init_63 : decode cX0_init 63 = .ok (.newarray .int, 2) := by decide +kernel
theorem dX0_init_65 : decode cX0_init 65 = .ok (.putfield 33, 3) := by decide +kernel
theorem dX0_init_68 : decode cX0_init 68 = .ok (.aload_n 0, 1) := by decide +kernel
theorem dX0_init_69 : decode cX0_init 69 = .ok (.bipush 12, 2) := by decide +kernel
theorem dX0_init_71 : decode cX0_init 71 = .ok (.newarray .int, 2) := by decide +kernel
theorem dX0_init_73 : decode cX0_init 73 = .ok (.putfield 36, 3) := by decide +kernel
theorem dX0_init_76 : decode cX0_init 76 = .ok (.aload_n 0, 1) := by decide +kernel
theorem dX0_init_77 : decode cX0_init 77 = .ok (.bipush 10, 2) := by decide +kernel
theorem dX0_init_79 : decode cX0_init 79 = .ok (.newarray .int, 2) := by decide +kernel
theorem dX0_init_81 : decode cX0_init 81 = .ok (.putfield 39, 3) := by decide +kernel
theorem dX0_init_84 : decode cX0_init 84 = .ok (.aload_n 0, 1) := by decide +kernel
theorem dX0_init_85 : decode cX0_init 85 = .ok (.bipush 16, 2) := by decide +kernel
theorem dX0_init_87 : decode cX0_init 87 = .ok (.newarray .int, 2) := by decide +kernel
theorem dX0_init_89 : decode cX0_init 89 = .ok (.putfield 42, 3) := by decide +kernel
theorem dX0_init_92 : decode cX0_init 92 = .ok (.return_, 1) := by decide +kernel
set_option maxRecDepth 20000 in
theorem ggX0_hasShaft_X5_within : GoodIn wsX0_hasShaft wsX5_within := goodIn_r _ [4] (by decide +kernel) (by decide +kernel)
set_option maxRecDepth 20000 in
theorem gX0_hasShaft_X5_within_n49 : GoodIn wsX0_hasShaft (wsX5_within) := ggX0_hasShaft_X5_within
theorem dX0_hasShaft_0 : decode cX0_hasShaft 0 = .ok (.iload_n 1, 1) := by decide +kernel
theorem dX0_hasShaft_1 : decode cX0_hasShaft 1 = .ok (.iconst 0, 1) := by decide +kernel
theorem dX0_hasShaft_2 : decode cX0_hasShaft 2 = .ok (.aload_n 0, 1) := by decide +kernel
theorem dX0_hasShaft_3 : decode cX0_hasShaft 3 = .ok (.getfield 45, 3) := by decide +kernel
theorem dX0_hasShaft_6 : decode cX0_hasShaft 6 = .ok (.iconst 1, 1) := by decide +kernel
theorem dX0_hasShaft_7 : decode cX0_hasShaft 7 = .ok (.isub, 1) := by decide +kernel
theorem dX0_hasShaft_8 : decode cX0_hasShaft 8 = .ok (.invokestatic 49, 3) := by decide +kernel
theorem dX0_hasShaft_11 : decode cX0_hasShaft 11 = .ok (.ireturn, 1) := by decide +kernel
set_option maxRecDepth 20000 in
theorem ggX0_hasPipe_X5_within : GoodIn wsX0_hasPipe wsX5_within := goodIn_r _ [4] (by decide +kernel) (by decide +kernel)
set_option maxRecDepth 20000 in
theorem gX0_hasPipe_X5_within_n49 : GoodIn wsX0_hasPipe (wsX5_within) := ggX0_hasPipe_X5_within
theorem dX0_hasPipe_0 : decode cX0_hasPipe 0 = .ok (.iload_n 1, 1) := by decide +kernel
theorem dX0_hasPipe_1 : decode cX0_hasPipe 1 = .ok (.iconst 0, 1) := by decide +kernel
theorem dX0_hasPipe_2 : decode cX0_hasPipe 2 = .ok (.aload_n 0, 1) := by decide +kernel
theorem dX0_hasPipe_3 : decode cX0_hasPipe 3 = .ok (.getfield 53, 3) := by decide +kernel
theorem dX0_hasPipe_6 : decode cX0_hasPipe 6 = .ok (.iconst 1, 1) := by decide +kernel
theorem dX0_hasPipe_7 : decode cX0_hasPipe 7 = .ok (.isub, 1) := by decide +kernel
theorem dX0_hasPipe_8 : decode cX0_hasPipe 8 = .ok (.invokestatic 49, 3) := by decide +kernel
theorem dX0_hasPipe_11 : decode cX0_hasPipe 11 = .ok (.ireturn, 1) := by decide +kernel
set_option maxRecDepth 20000 in
theorem ggX0_addShaft_X0_isKind : GoodIn wsX0_addShaft wsX0_isKind := goodIn_r _ [7, 8, 9, 10] (by decide +kernel) (by decide +kernel)
set_option maxRecDepth 20000 in
theorem gX0_addShaft_X0_isKind : GoodIn wsX0_addShaft (va_wsS RX0 56 yX0_isKind wsX0_isKind) := goodIn_app (goodIn_of _ (by decide +kernel)) ggX0_addShaft_X0_isKind
set_option maxRecDepth 20000 in
theorem ggX0_addShaft_X0_isPace : GoodIn wsX0_addShaft wsX0_isPace := goodIn_r _ [13, 8, 9, 10] (by decide +kernel) (by decide +kernel)
set_option maxRecDepth 20000 in
theorem gX0_addShaft_X0_isPace : GoodIn wsX0_addShaft (va_wsS RX0 60 yX0_isPace wsX0_isPace) := goodIn_app (goodIn_of _ (by decide +kernel)) ggX0_addShaft_X0_isPace
set_option maxRecDepth 20000 in
theorem ggX0_addShaft_X0_findWays : GoodIn wsX0_addShaft wsX0_findWays := goodIn_r _ [17, 18, 19, 20, 6, 21, 1, 22, 23, 24, 25, 26, 27, 28, 29, 30, 31, 32, 33, 34, 35, 36, 37, 38, 39, 40, 41, 42, 43, 44, 45, 46, 47, 48, 49, 50, 51] (by decide +kernel) (by decide +kernel)
set_option maxRecDepth 20000 in
theorem gX0_addShaft_X0_findWays : GoodIn wsX0_addShaft (wsV RX0 63 RX0 yX0_findWays wsX0_findWays) := goodIn_app (goodIn_of _ (by decide +kernel)) ggX0_addShaft_X0_findWays
theorem dX0_addShaft_0 : decode cX0_addShaft 0 = .ok (.iload_n 1, 1) := by decide +kernel
theorem dX0_addShaft_1 : decode cX0_addShaft 1 = .ok (.invokestatic 56, 3) := by decide +kernel
theorem dX0_addShaft_4 : decode cX0_addShaft 4 = .ok (.ifCond .eq 10, 3) := by decide +kernel
theorem dX0_addShaft_7 : decode cX0_addShaft 7 = .ok (.iload_n 2, 1) := by decide +kernel
theorem dX0_addShaft_8 : decode cX0_addShaft 8 = .ok (.invokestatic 60, 3) := by decide +kernel
theorem dX0_addShaft_11 : decode cX0_addShaft 11 = .ok (.ifCond .ne 6, 3) := by decide +kernel
theorem dX0_addShaft_14 : decode cX0_addShaft 14 = .ok (.bipush (-2), 2) := by decide +kernel
theorem dX0_addShaft_16 : decode cX0_addShaft 16 = .ok (.ireturn, 1) := by decide +kernel
theorem dX0_addShaft_17 : decode cX0_addShaft 17 = .ok (.aload_n 0, 1) := by decide +kernel
theorem dX0_addShaft_18 : decode cX0_addShaft 18 = .ok (.getfield 45, 3) := by decide +kernel
theorem dX0_addShaft_21 : decode cX0_addShaft 21 = .ok (.bipush 10, 2) := by decide +kernel
theorem dX0_addShaft_23 : decode cX0_addShaft 23 = .ok (.if_icmp .lt 6, 3) := by decide +kernel
theorem dX0_addShaft_26 : decode cX0_addShaft 26 = .ok (.bipush (-4), 2) := by decide +kernel
theorem dX0_addShaft_28 : decode cX0_addShaft 28 = .ok (.ireturn, 1) := by decide +kernel
theorem dX0_addShaft_29 : decode cX0_addShaft 29 = .ok (.aload_n 0, 1) := by decide +kernel
theorem dX0_addShaft_30 : decode cX0_addShaft 30 = .ok (.getfield 45, 3) := by decide +kernel
theorem dX0_addShaft_33 : decode cX0_addShaft 33 = .ok (.istore_n 3, 1) := by decide +kernel
theorem dX0_addShaft_34 : decode cX0_addShaft 34 = .ok (.aload_n 0, 1) := by decide +kernel
theorem dX0_addShaft_35 : decode cX0_addShaft 35 = .ok (.getfield 9, 3) := by decide +kernel
theorem dX0_addShaft_38 : decode cX0_addShaft 38 = .ok (.iload_n 3, 1) := by decide +kernel
theorem dX0_addShaft_39 : decode cX0_addShaft 39 = .ok (.iload_n 1, 1) := by decide +kernel
theorem dX0_addShaft_40 : decode cX0_addShaft 40 = .ok (.iastore, 1) := by decide +kernel
theorem dX0_addShaft_41 : decode cX0_addShaft 41 = .ok (.aload_n 0, 1) := by decide +kernel
theorem dX0_addShaft_42 : decode cX0_addShaft 42 = .ok (.getfield 15, 3) := by decide +kernel
theorem dX0_addShaft_45 : decode cX0_addShaft 45 = .ok (.iload_n 3, 1) := by decide +kernel
theorem dX0_addShaft_46 : decode cX0_addShaft 46 = .ok (.iload_n 2, 1) := by decide +kernel
theorem dX0_addShaft_47 : decode cX0_addShaft 47 = .ok (.iastore, 1) := by decide +kernel
theorem dX0_addShaft_48 : decode cX0_addShaft 48 = .ok (.aload_n 0, 1) := by decide +kernel
theorem dX0_addShaft_49 : decode cX0_addShaft 49 = .ok (.dup, 1) := by decide +kernel
theorem dX0_addShaft_50 : decode cX0_addShaft 50 = .ok (.getfield 45, 3) := by decide +kernel
theorem dX0_addShaft_53 : decode cX0_addShaft 53 = .ok (.iconst 1, 1) := by decide +kernel
theorem dX0_addShaft_54 : decode cX0_addShaft 54 = .ok (.iadd, 1) := by decide +kernel
theorem dX0_addShaft_55 : decode cX0_addShaft 55 = .ok (.putfield 45, 3) := by decide +kernel
theorem dX0_addShaft_58 : decode cX0_addShaft 58 = .ok (.aload_n 0, 1) := by decide +kernel
theorem dX0_addShaft_59 : decode cX0_addShaft 59 = .ok (.invokevirtual 63, 3) := by decide +kernel
theorem dX0_addShaft_62 : decode cX0_addShaft 62 = .ok (.iload_n 3, 1) := by decide +kernel
theorem dX0_addShaft_63 : decode cX0_addShaft 63 = .ok (.ireturn, 1) := by decide +kernel
set_option maxRecDepth 20000 in
theorem ggX0_changeShaft_X0_hasShaft : GoodIn wsX0_changeShaft wsX0_hasShaft := goodIn_r _ [7, 8, 9, 10, 11, 18, 19, 20, 21, 22, 23, 24, 25, 26, 27, 28, 29, 30, 31] (by decide +kernel) (by decide +kernel)
set_option maxRecDepth 20000 in
theorem gX0_changeShaft_X0_hasShaft : GoodIn wsX0_changeShaft (wsV RX0 66 RX0 yX0_hasShaft wsX0_hasShaft) := goodIn_app (goodIn_of _ (by decide +kernel)) ggX0_changeShaft_X0_hasShaft
set_option maxRecDepth 20000 in
theorem ggX0_changeShaft_X0_isKind : GoodIn wsX0_changeShaft wsX0_isKind := goodIn_r _ [14, 9, 10, 11] (by decide +kernel) (by decide +kernel)
set_option maxRecDepth 20000 in
theorem gX0_changeShaft_X0_isKind : GoodIn wsX0_changeShaft (va_wsS RX0 56 yX0_isKind wsX0_isKind) := goodIn_app (goodIn_of _ (by decide +kernel)) ggX0_changeShaft_X0_isKind
set_option maxRecDepth 20000 in
theorem ggX0_changeShaft_X0_isPace : GoodIn wsX0_changeShaft wsX0_isPace := goodIn_r _ [17, 9, 10, 11] (by decide +kernel) (by decide +kernel)
set_option maxRecDepth 20000 in
theorem gX0_changeShaft_X0_isPace : GoodIn wsX0_changeShaft (va_wsS RX0 60 yX0_isPace wsX0_isPace) := goodIn_app (goodIn_of _ (by decide +kernel)) ggX0_changeShaft_X0_isPace
theorem dX0_changeShaft_0 : decode cX0_changeShaft 0 = .ok (.aload_n 0, 1) := by decide +kernel
theorem dX0_changeShaft_1 : decode cX0_changeShaft 1 = .ok (.iload_n 1, 1) := by decide +kernel
theorem dX0_changeShaft_2 : decode cX0_changeShaft 2 = .ok (.invokevirtual 66, 3) := by decide +kernel
theorem dX0_changeShaft_5 : decode cX0_changeShaft 5 = .ok (.ifCond .ne 6, 3) := by decide +kernel
theorem dX0_changeShaft_8 : decode cX0_changeShaft 8 = .ok (.bipush (-2), 2) := by decide +kernel
theorem dX0_changeShaft_10 : decode cX0_changeShaft 10 = .ok (.ireturn, 1) := by decide +kernel
theorem dX0_changeShaft_11 : decode cX0_changeShaft 11 = .ok (.iload_n 2, 1) := by decide +kernel
theorem dX0_changeShaft_12 : decode cX0_changeShaft 12 = .ok (.ifCond .ne 28, 3) := by decide +kernel
theorem dX0_changeShaft_15 : decode cX0_changeShaft 15 = .ok (.iload_n 3, 1) := by decide +kernel
theorem dX0_changeShaft_16 : decode cX0_changeShaft 16 = .ok (.invokestatic 56, 3) := by decide +kernel
theorem dX0_changeShaft_19 : decode cX0_changeShaft 19 = .ok (.ifCond .eq 21, 3) := by decide +kernel
theorem dX0_changeShaft_22 : decode cX0_changeShaft 22 = .ok (.aload_n 0, 1) := by decide +kernel
theorem dX0_changeShaft_23 : decode cX0_changeShaft 23 = .ok (.getfield 9, 3) := by decide +kernel
theorem dX0_changeShaft_26 : decode cX0_changeShaft 26 = .ok (.iload_n 1, 1) := by decide +kernel
theorem dX0_changeShaft_27 : decode cX0_changeShaft 27 = .ok (.iaload, 1) := by decide +kernel
theorem dX0_changeShaft_28 : decode cX0_changeShaft 28 = .ok (.istore 4, 2) := by decide +kernel
theorem dX0_changeShaft_30 : decode cX0_changeShaft 30 = .ok (.aload_n 0, 1) := by decide +kernel
theorem dX0_changeShaft_31 : decode cX0_changeShaft 31 = .ok (.getfield 9, 3) := by decide +kernel
theorem dX0_changeShaft_34 : decode cX0_changeShaft 34 = .ok (.iload_n 1, 1) := by decide +kernel
theorem dX0_changeShaft_35 : decode cX0_changeShaft 35 = .ok (.iload_n 3, 1) := by decide +kernel
theorem dX0_changeShaft_36 : decode cX0_changeShaft 36 = .ok (.iastore, 1) := by decide +kernel
theorem dX0_changeShaft_37 : decode cX0_changeShaft 37 = .ok (.iload 4, 2) := by decide +kernel
theorem dX0_changeShaft_39 : decode cX0_changeShaft 39 = .ok (.ireturn, 1) := by decide +kernel
theorem dX0_changeShaft_40 : decode cX0_changeShaft 40 = .ok (.iload_n 2, 1) := by decide +kernel
theorem dX0_changeShaft_41 : decode cX0_changeShaft 41 = .ok (.iconst 1, 1) := by decide +kernel
theorem dX0_changeShaft_42 : decode cX0_changeShaft 42 = .ok (.if_icmp .ne 28, 3) := by decide +kernel
theorem dX0_changeShaft_45 : decode cX0_changeShaft 45 = .ok (.iload_n 3, 1) := by decide +kernel
theorem dX0_changeShaft_46 : decode cX0_changeShaft 46 = .ok (.invokestatic 60, 3) := by decide +kernel
theorem dX0_changeShaft_49 : decode cX0_changeShaft 49 = .ok (.ifCond .eq 21, 3) := by decide +kernel
theorem dX0_changeShaft_52 : decode cX0_changeShaft 52 = .ok (.aload_n 0, 1) := by decide +kernel
theorem dX0_changeShaft_53 : decode cX0_changeShaft 53 = .ok (.getfield 15, 3) := by decide +kernel
theorem dX0_changeShaft_56 : decode cX0_changeShaft 56 = .ok (.iload_n 1, 1) := by decide +kernel
theorem dX0_changeShaft_57 : decode cX0_changeShaft 57 = .ok (.iaload, 1) := by decide +kernel
theorem dX0_changeShaft_58 : decode cX0_changeShaft 58 = .ok (.istore 4, 2) := by decide +kernel
theorem dX0_changeShaft_60 : decode cX0_changeShaft 60 = .ok (.aload_n 0, 1) := by decide +kernel
theorem dX0_changeShaft_61 : decode cX0_changeShaft 61 = .ok (.getfield 15, 3) := by decide +kernel
theorem dX0_changeShaft_64 : decode cX0_changeShaft 64 = .ok (.iload_n 1, 1) := by decide +kernel
theorem dX0_changeShaft_65 : decode cX0_changeShaft 65 = .ok (.iload_n 3, 1) := by decide +kernel
theorem dX0_changeShaft_66 : decode cX0_changeShaft 66 = .ok (.iastore, 1) := by decide +kernel
theorem dX0_changeShaft_67 : decode cX0_changeShaft 67 = .ok (.iload 4, 2) := by decide +kernel
theorem dX0_changeShaft_69 : decode cX0_changeShaft 69 = .ok (.ireturn, 1) := by decide +kernel
theorem dX0_changeShaft_70 : decode cX0_changeShaft 70 = .ok (.bipush (-2), 2) := by decide +kernel
theorem dX0_changeShaft_72 : decode cX0_changeShaft 72 = .ok (.ireturn, 1) := by decide +kernel
set_option maxRecDepth 20000 in
theorem ggX0_addPipe_X0_hasShaft : GoodIn wsX0_addPipe wsX0_hasShaft := goodIn_r _ [10, 11, 12, 13, 14, 40, 41, 42, 43, 44, 45, 46, 47, 48, 49, 50, 51, 52, 53] (by decide +kernel) (by decide +kernel)
set_option maxRecDepth 20000 in
theorem gX0_addPipe_X0_hasShaft : GoodIn wsX0_addPipe (wsV RX0 66 RX0 yX0_hasShaft wsX0_hasShaft) := goodIn_app (goodIn_of _ (by decide +kernel)) ggX0_addPipe_X0_hasShaft
set_option maxRecDepth 20000 in
theorem ggX0_addPipe_X0_isBelow : GoodIn wsX0_addPipe wsX0_isBelow := goodIn_r _ [18, 19, 40, 41, 42, 43, 44, 45, 46, 47, 48, 49, 50, 51, 52, 53] (by decide +kernel) (by decide +kernel)
set_option maxRecDepth 20000 in
theorem gX0_addPipe_X0_isBelow : GoodIn wsX0_addPipe (wsV RX0 69 RX0 yX0_isBelow wsX0_isBelow) := goodIn_app (goodIn_of _ (by decide +kernel)) ggX0_addPipe_X0_isBelow
set_option maxRecDepth 20000 in
theorem ggX0_addPipe_X0_findWays : GoodIn wsX0_addPipe wsX0_findWays := goodIn_r _ [23, 24, 25, 26, 9, 27, 11, 19, 1, 2, 3, 28, 29, 30, 31, 32, 33, 34, 35, 36, 37, 38, 39, 40, 41, 42, 43, 44, 45, 46, 47, 48, 49, 50, 51, 52, 53] (by decide +kernel) (by decide +kernel)
set_option maxRecDepth 20000 in
theorem gX0_addPipe_X0_findWays : GoodIn wsX0_addPipe (wsV RX0 63 RX0 yX0_findWays wsX0_findWays) := goodIn_app (goodIn_of _ (by decide +kernel)) ggX0_addPipe_X0_findWays
theorem dX0_addPipe_0 : decode cX0_addPipe 0 = .ok (.aload_n 0, 1) := by decide +kernel
theorem dX0_addPipe_1 : decode cX0_addPipe 1 = .ok (.iload_n 1, 1) := by decide +kernel
theorem dX0_addPipe_2 : decode cX0_addPipe 2 = .ok (.invokevirtual 66, 3) := by decide +kernel
theorem dX0_addPipe_5 : decode cX0_addPipe 5 = .ok (.ifCond .eq 16, 3) := by decide +kernel
theorem dX0_addPipe_8 : decode cX0_addPipe 8 = .ok (.aload_n 0, 1) := by decide +kernel
theorem dX0_addPipe_9 : decode cX0_addPipe 9 = .ok (.iload_n 2, 1) := by decide +kernel
theorem dX0_addPipe_10 : decode cX0_addPipe 10 = .ok (.invokevirtual 66, 3) := by decide +kernel
theorem dX0_addPipe_13 : decode cX0_addPipe 13 = .ok (.ifCond .eq 8, 3) := by decide +kernel
theorem dX0_addPipe_16 : decode cX0_addPipe 16 = .ok (.iload_n 1, 1) := by decide +kernel
theorem dX0_addPipe_17 : decode cX0_addPipe 17 = .ok (.iload_n 2, 1) := by decide +kernel
theorem dX0_addPipe_18 : decode cX0_addPipe 18 = .ok (.if_icmp .ne 6, 3) := by decide +kernel
theorem dX0_addPipe_21 : decode cX0_addPipe 21 = .ok (.bipush (-2), 2) := by decide +kernel
theorem dX0_addPipe_23 : decode cX0_addPipe 23 = .ok (.ireturn, 1) := by decide +kernel
theorem dX0_addPipe_24 : decode cX0_addPipe 24 = .ok (.iload_n 3, 1) := by decide +kernel
theorem dX0_addPipe_25 : decode cX0_addPipe 25 = .ok (.ifCond .lt 16, 3) := by decide +kernel
theorem dX0_addPipe_28 : decode cX0_addPipe 28 = .ok (.iload 4, 2) := by decide +kernel
theorem dX0_addPipe_30 : decode cX0_addPipe 30 = .ok (.bipush 9, 2) := by decide +kernel
theorem dX0_addPipe_32 : decode cX0_addPipe 32 = .ok (.if_icmp .gt 9, 3) := by decide +kernel
theorem dX0_addPipe_35 : decode cX0_addPipe 35 = .ok (.iload_n 3, 1) := by decide +kernel
theorem dX0_addPipe_36 : decode cX0_addPipe 36 = .ok (.iload 4, 2) := by decide +kernel
theorem dX0_addPipe_38 : decode cX0_addPipe 38 = .ok (.if_icmp .le 6, 3) := by decide +kernel
theorem dX0_addPipe_41 : decode cX0_addPipe 41 = .ok (.bipush (-2), 2) := by decide +kernel
theorem dX0_addPipe_43 : decode cX0_addPipe 43 = .ok (.ireturn, 1) := by decide +kernel
theorem dX0_addPipe_44 : decode cX0_addPipe 44 = .ok (.aload_n 0, 1) := by decide +kernel
theorem dX0_addPipe_45 : decode cX0_addPipe 45 = .ok (.iload_n 1, 1) := by decide +kernel
theorem dX0_addPipe_46 : decode cX0_addPipe 46 = .ok (.iload_n 2, 1) := by decide +kernel
theorem dX0_addPipe_47 : decode cX0_addPipe 47 = .ok (.invokevirtual 69, 3) := by decide +kernel
theorem dX0_addPipe_50 : decode cX0_addPipe 50 = .ok (.ifCond .eq 6, 3) := by decide +kernel
theorem dX0_addPipe_53 : decode cX0_addPipe 53 = .ok (.bipush (-3), 2) := by decide +kernel
theorem dX0_addPipe_55 : decode cX0_addPipe 55 = .ok (.ireturn, 1) := by decide +kernel
theorem dX0_addPipe_56 : decode cX0_addPipe 56 = .ok (.aload_n 0, 1) := by decide +kernel
theorem dX0_addPipe_57 : decode cX0_addPipe 57 = .ok (.getfield 53, 3) := by decide +kernel
theorem dX0_addPipe_60 : decode cX0_addPipe 60 = .ok (.bipush 16, 2) := by decide +kernel
theorem dX0_addPipe_62 : decode cX0_addPipe 62 = .ok (.if_icmp .lt 6, 3) := by decide +kernel
theorem dX0_addPipe_65 : decode cX0_addPipe 65 = .ok (.bipush (-4), 2) := by decide +kernel
theorem dX0_addPipe_67 : decode cX0_addPipe 67 = .ok (.ireturn, 1) := by decide +kernel
theorem dX0_addPipe_68 : decode cX0_addPipe 68 = .ok (.aload_n 0, 1) := by decide +kernel
theorem dX0_addPipe_69 : decode cX0_addPipe 69 = .ok (.getfield 53, 3) := by decide +kernel
theorem dX0_addPipe_72 : decode cX0_addPipe 72 = .ok (.istore 5, 2) := by decide +kernel
theorem dX0_addPipe_74 : decode cX0_addPipe 74 = .ok (.aload_n 0, 1) := by decide +kernel
theorem dX0_addPipe_75 : decode cX0_addPipe 75 = .ok (.getfield 18, 3) := by decide +kernel
theorem dX0_addPipe_78 : decode cX0_addPipe 78 = .ok (.iload 5, 2) := by decide +kernel
theorem dX0_addPipe_80 : decode cX0_addPipe 80 = .ok (.iload_n 1, 1) := by decide +kernel
theorem dX0_addPipe_81 : decode cX0_addPipe 81 = .ok (.iastore, 1) := by decide +kernel
theorem dX0_addPipe_82 : decode cX0_addPipe 82 = .ok (.aload_n 0, 1) := by decide +kernel
theorem dX0_addPipe_83 : decode cX0_addPipe 83 = .ok (.getfield 21, 3) := by decide +kernel
theorem dX0_addPipe_86 : decode cX0_addPipe 86 = .ok (.iload 5, 2) := by decide +kernel
theorem dX0_addPipe_88 : decode cX0_addPipe 88 = .ok (.iload_n 2, 1) := by decide +kernel
theorem dX0_addPipe_89 : decode cX0_addPipe 89 = .ok (.iastore, 1) := by decide +kernel
theorem dX0_addPipe_90 : decode cX0_addPipe 90 = .ok (.aload_n 0, 1) := by decide +kernel
theorem dX0_addPipe_91 : decode cX0_addPipe 91 = .ok (.getfield 24, 3) := by decide +kernel
theorem dX0_addPipe_94 : decode cX0_addPipe 94 = .ok (.iload 5, 2) := by decide +kernel
theorem dX0_addPipe_96 : decode cX0_addPipe 96 = .ok (.iload_n 3, 1) := by decide +kernel
theorem dX0_addPipe_97 : decode cX0_addPipe 97 = .ok (.iastore, 1) := by decide +kernel
theorem dX0_addPipe_98 : decode cX0_addPipe 98 = .ok (.aload_n 0, 1) := by decide +kernel
theorem dX0_addPipe_99 : decode cX0_addPipe 99 = .ok (.getfield 27, 3) := by decide +kernel
theorem dX0_addPipe_102 : decode cX0_addPipe 102 = .ok (.iload 5, 2) := by decide +kernel
theorem dX0_addPipe_104 : decode cX0_addPipe 104 = .ok (.iload 4, 2) := by decide +kernel
theorem dX0_addPipe_106 : decode cX0_addPipe 106 = .ok (.iastore, 1) := by decide +kernel
theorem dX0_addPipe_107 : decode cX0_addPipe 107 = .ok (.aload_n 0, 1) := by decide +kernel
theorem dX0_addPipe_108 : decode cX0_addPipe 108 = .ok (.dup, 1) := by decide +kernel
theorem dX0_addPipe_109 : decode cX0_addPipe 109 = .ok (.getfield 53, 3) := by decide +kernel
theorem dX0_addPipe_112 : decode cX0_addPipe 112 = .ok (.iconst 1, 1) := by decide +kernel
theorem dX0_addPipe_113 : decode cX0_addPipe 113 = .ok (.iadd, 1) := by decide +kernel
theorem dX0_addPipe_114 : decode cX0_addPipe 114 = .ok (.putfield 53, 3) := by decide +kernel
theorem dX0_addPipe_117 : decode cX0_addPipe 117 = .ok (.aload_n 0, 1) := by decide +kernel
theorem dX0_addPipe_118 : decode cX0_addPipe 118 = .ok (.invokevirtual 63, 3) := by decide +kernel
theorem dX0_addPipe_121 : decode cX0_addPipe 121 = .ok (.iload 5, 2) := by decide +kernel
theorem dX0_addPipe_123 : decode cX0_addPipe 123 = .ok (.ireturn, 1) := by decide +kernel
set_option maxRecDepth 20000 in
theorem ggX0_dropPipe_X0_hasPipe : GoodIn wsX0_dropPipe wsX0_hasPipe := goodIn_r _ [10, 1, 11, 12, 13, 36, 37, 38, 39, 40, 41, 42, 43, 44, 45, 46, 47, 48, 49] (by decide +kernel) (by decide +kernel)
set_option maxRecDepth 20000 in
theorem gX0_dropPipe_X0_hasPipe : GoodIn wsX0_dropPipe (wsV RX0 73 RX0 yX0_hasPipe wsX0_hasPipe) := goodIn_app (goodIn_of _ (by decide +kernel)) ggX0_dropPipe_X0_hasPipe
set_option maxRecDepth 20000 in
theorem ggX0_dropPipe_X0_findWays : GoodIn wsX0_dropPipe wsX0_findWays := goodIn_r _ [17, 18, 19, 20, 9, 21, 22, 23, 1, 2, 3, 24, 25, 26, 27, 28, 29, 30, 31, 32, 33, 34, 35, 36, 37, 38, 39, 40, 41, 42, 43, 44, 45, 46, 47, 48, 49] (by decide +kernel) (by decide +kernel)
set_option maxRecDepth 20000 in
theorem gX0_dropPipe_X0_findWays : GoodIn wsX0_dropPipe (wsV RX0 63 RX0 yX0_findWays wsX0_findWays) := goodIn_app (goodIn_of _ (by decide +kernel)) ggX0_dropPipe_X0_findWays
theorem dX0_dropPipe_0 : decode cX0_dropPipe 0 = .ok (.aload_n 0, 1) := by decide +kernel
theorem dX0_dropPipe_1 : decode cX0_dropPipe 1 = .ok (.iload_n 1, 1) := by decide +kernel
theorem dX0_dropPipe_2 : decode cX0_dropPipe 2 = .ok (.invokevirtual 73, 3) := by decide +kernel
theorem dX0_dropPipe_5 : decode cX0_dropPipe 5 = .ok (.ifCond .ne 6, 3) := by decide +kernel
theorem dX0_dropPipe_8 : decode cX0_dropPipe 8 = .ok (.bipush (-2), 2) := by decide +kernel
theorem dX0_dropPipe_10 : decode cX0_dropPipe 10 = .ok (.ireturn, 1) := by decide +kernel
theorem dX0_dropPipe_11 : decode cX0_dropPipe 11 = .ok (.aload_n 0, 1) := by decide +kernel
theorem dX0_dropPipe_12 : decode cX0_dropPipe 12 = .ok (.dup, 1) := by decide +kernel
theorem dX0_dropPipe_13 : decode cX0_dropPipe 13 = .ok (.getfield 53, 3) := by decide +kernel
theorem dX0_dropPipe_16 : decode cX0_dropPipe 16 = .ok (.iconst 1, 1) := by decide +kernel
theorem dX0_dropPipe_17 : decode cX0_dropPipe 17 = .ok (.isub, 1) := by decide +kernel
theorem dX0_dropPipe_18 : decode cX0_dropPipe 18 = .ok (.putfield 53, 3) := by decide +kernel
theorem dX0_dropPipe_21 : decode cX0_dropPipe 21 = .ok (.iload_n 1, 1) := by decide +kernel
theorem dX0_dropPipe_22 : decode cX0_dropPipe 22 = .ok (.istore_n 2, 1) := by decide +kernel
theorem dX0_dropPipe_23 : decode cX0_dropPipe 23 = .ok (.iload_n 2, 1) := by decide +kernel
theorem dX0_dropPipe_24 : decode cX0_dropPipe 24 = .ok (.aload_n 0, 1) := by decide +kernel
theorem dX0_dropPipe_25 : decode cX0_dropPipe 25 = .ok (.getfield 53, 3) := by decide +kernel
theorem dX0_dropPipe_28 : decode cX0_dropPipe 28 = .ok (.if_icmp .ge 65, 3) := by decide +kernel
theorem dX0_dropPipe_31 : decode cX0_dropPipe 31 = .ok (.aload_n 0, 1) := by decide +kernel
theorem dX0_dropPipe_32 : decode cX0_dropPipe 32 = .ok (.getfield 18, 3) := by decide +kernel
theorem dX0_dropPipe_35 : decode cX0_dropPipe 35 = .ok (.iload_n 2, 1) := by decide +kernel
theorem dX0_dropPipe_36 : decode cX0_dropPipe 36 = .ok (.aload_n 0, 1) := by decide +kernel
theorem dX0_dropPipe_37 : decode cX0_dropPipe 37 = .ok (.getfield 18, 3) := by decide +kernel
theorem dX0_dropPipe_40 : decode cX0_dropPipe 40 = .ok (.iload_n 2, 1) := by decide +kernel
theorem dX0_dropPipe_41 : decode cX0_dropPipe 41 = .ok (.iconst 1, 1) := by decide +kernel
theorem dX0_dropPipe_42 : decode cX0_dropPipe 42 = .ok (.iadd, 1) := by decide +kernel
theorem dX0_dropPipe_43 : decode cX0_dropPipe 43 = .ok (.iaload, 1) := by decide +kernel
theorem dX0_dropPipe_44 : decode cX0_dropPipe 44 = .ok (.iastore, 1) := by decide +kernel
theorem dX0_dropPipe_45 : decode cX0_dropPipe 45 = .ok (.aload_n 0, 1) := by decide +kernel
theorem dX0_dropPipe_46 : decode cX0_dropPipe 46 = .ok (.getfield 21, 3) := by decide +kernel
theorem dX0_dropPipe_49 : decode cX0_dropPipe 49 = .ok (.iload_n 2, 1) := by decide +kernel
theorem dX0_dropPipe_50 : decode cX0_dropPipe 50 = .ok (.aload_n 0, 1) := by decide +kernel
theorem dX0_dropPipe_51 : decode cX0_dropPipe 51 = .ok (.getfield 21, 3) := by decide +kernel
theorem dX0_dropPipe_54 : decode cX0_dropPipe 54 = .ok (.iload_n 2, 1) := by decide +kernel
theorem dX0_dropPipe_55 : decode cX0_dropPipe 55 = .ok (.iconst 1, 1) := by decide +kernel
theorem dX0_dropPipe_56 : decode cX0_dropPipe 56 = .ok (.iadd, 1) := by decide +kernel
theorem dX0_dropPipe_57 : decode cX0_dropPipe 57 = .ok (.iaload, 1) := by decide +kernel
theorem dX0_dropPipe_58 : decode cX0_dropPipe 58 = .ok (.iastore, 1) := by decide +kernel
theorem dX0_dropPipe_59 : decode cX0_dropPipe 59 = .ok (.aload_n 0, 1) := by decide +kernel
theorem dX0_dropPipe_60 : decode cX0_dropPipe 60 = .ok (.getfield 24, 3) := by decide +kernel
theorem dX0_dropPipe_63 : decode cX0_dropPipe 63 = .ok (.iload_n 2, 1) := by decide +kernel
theorem dX0_dropPipe_64 : decode cX0_dropPipe 64 = .ok (.aload_n 0, 1) := by decide +kernel
theorem dX0_dropPipe_65 : decode cX0_dropPipe 65 = .ok (.getfield 24, 3) := by decide +kernel
theorem dX0_dropPipe_68 : decode cX0_dropPipe 68 = .ok (.iload_n 2, 1) := by decide +kernel
theorem dX0_dropPipe_69 : decode cX0_dropPipe 69 = .ok (.iconst 1, 1) := by decide +kernel
theorem dX0_dropPipe_70 : decode cX0_dropPipe 70 = .ok (.iadd, 1) := by decide +kernel
theorem dX0_dropPipe_71 : decode cX0_dropPipe 71 = .ok (.iaload, 1) := by decide +kernel
theorem dX0_dropPipe_72 : decode cX0_dropPipe 72 = .ok (.iastore, 1) := by decide +kernel
theorem dX0_dropPipe_73 : decode cX0_dropPipe 73 = .ok (.aload_n 0, 1) := by decide +kernel
theorem dX0_dropPipe_74 : decode cX0_dropPipe 74 = .ok (.getfield 27, 3) := by decide +kernel
theorem dX0_dropPipe_77 : decode cX0_dropPipe 77 = .ok (.iload_n 2, 1) := by decide +kernel
theorem dX0_dropPipe_78 : decode cX0_dropPipe 78 = .ok (.aload_n 0, 1) := by decide +kernel
theorem dX0_dropPipe_79 : decode cX0_dropPipe 79 = .ok (.getfield 27, 3) := by decide +kernel
theorem dX0_dropPipe_82 : decode cX0_dropPipe 82 = .ok (.iload_n 2, 1) := by decide +kernel
theorem dX0_dropPipe_83 : decode cX0_dropPipe 83 = .ok (.iconst 1, 1) := by decide +kernel
theorem dX0_dropPipe_84 : decode cX0_dropPipe 84 = .ok (.iadd, 1) := by decide +kernel
theorem dX0_dropPipe_85 : decode cX0_dropPipe 85 = .ok (.iaload, 1) := by decide +kernel
theorem dX0_dropPipe_86 : decode cX0_dropPipe 86 = .ok (.iastore, 1) := by decide +kernel
theorem dX0_dropPipe_87 : decode cX0_dropPipe 87 = .ok (.iinc 2 1, 3) := by decide +kernel
theorem dX0_dropPipe_90 : decode cX0_dropPipe 90 = .ok (.goto (-67), 3) := by decide +kernel
theorem dX0_dropPipe_93 : decode cX0_dropPipe 93 = .ok (.aload_n 0, 1) := by decide +kernel
theorem dX0_dropPipe_94 : decode cX0_dropPipe 94 = .ok (.invokevirtual 63, 3) := by decide +kernel
theorem dX0_dropPipe_97 : decode cX0_dropPipe 97 = .ok (.aload_n 0, 1) := by decide +kernel
theorem dX0_dropPipe_98 : decode cX0_dropPipe 98 = .ok (.getfield 53, 3) := by decide +kernel
theorem dX0_dropPipe_101 : decode cX0_dropPipe 101 = .ok (.ireturn, 1) := by decide +kernel
set_option maxRecDepth 20000 in
theorem ggX0_addSight_X5_within : GoodIn wsX0_addSight wsX5_within := goodIn_r _ [7] (by decide +kernel) (by decide +kernel)
set_option maxRecDepth 20000 in
theorem gX0_addSight_X5_within_n49 : GoodIn wsX0_addSight (wsX5_within) := ggX0_addSight_X5_within
set_option maxRecDepth 20000 in
theorem ggX0_addSight_X0_hasShaft : GoodIn wsX0_addSight wsX0_hasShaft := goodIn_r _ [12, 13, 5, 6, 7, 14, 15, 16, 17, 18, 19, 20, 21, 22, 23, 24, 25, 26, 27] (by decide +kernel) (by decide +kernel)
set_option maxRecDepth 20000 in
theorem gX0_addSight_X0_hasShaft : GoodIn wsX0_addSight (wsV RX0 66 RX0 yX0_hasShaft wsX0_hasShaft) := goodIn_app (goodIn_of _ (by decide +kernel)) ggX0_addSight_X0_hasShaft
theorem dX0_addSight_0 : decode cX0_addSight 0 = .ok (.iload_n 1, 1) := by decide +kernel
theorem dX0_addSight_1 : decode cX0_addSight 1 = .ok (.iconst 0, 1) := by decide +kernel
theorem dX0_addSight_2 : decode cX0_addSight 2 = .ok (.iconst 1, 1) := by decide +kernel
theorem dX0_addSight_3 : decode cX0_addSight 3 = .ok (.invokestatic 49, 3) := by decide +kernel
theorem dX0_addSight_6 : decode cX0_addSight 6 = .ok (.ifCond .eq 21, 3) := by decide +kernel
theorem dX0_addSight_9 : decode cX0_addSight 9 = .ok (.aload_n 0, 1) := by decide +kernel
theorem dX0_addSight_10 : decode cX0_addSight 10 = .ok (.iload_n 2, 1) := by decide +kernel
theorem dX0_addSight_11 : decode cX0_addSight 11 = .ok (.invokevirtual 66, 3) := by decide +kernel
theorem dX0_addSight_14 : decode cX0_addSight 14 = .ok (.ifCond .eq 13, 3) := by decide +kernel
theorem dX0_addSight_17 : decode cX0_addSight 17 = .ok (.iload_n 3, 1) := by decide +kernel
theorem dX0_addSight_18 : decode cX0_addSight 18 = .ok (.iconst 0, 1) := by decide +kernel
theorem dX0_addSight_19 : decode cX0_addSight 19 = .ok (.bipush 62, 2) := by decide +kernel
theorem dX0_addSight_21 : decode cX0_addSight 21 = .ok (.invokestatic 49, 3) := by decide +kernel
theorem dX0_addSight_24 : decode cX0_addSight 24 = .ok (.ifCond .ne 6, 3) := by decide +kernel
theorem dX0_addSight_27 : decode cX0_addSight 27 = .ok (.bipush (-2), 2) := by decide +kernel
theorem dX0_addSight_29 : decode cX0_addSight 29 = .ok (.ireturn, 1) := by decide +kernel
theorem dX0_addSight_30 : decode cX0_addSight 30 = .ok (.aload_n 0, 1) := by decide +kernel
theorem dX0_addSight_31 : decode cX0_addSight 31 = .ok (.getfield 76, 3) := by decide +kernel
theorem dX0_addSight_34 : decode cX0_addSight 34 = .ok (.bipush 12, 2) := by decide +kernel
theorem dX0_addSight_36 : decode cX0_addSight 36 = .ok (.if_icmp .lt 6, 3) := by decide +kernel
theorem dX0_addSight_39 : decode cX0_addSight 39 = .ok (.bipush (-4), 2) := by decide +kernel
theorem dX0_addSight_41 : decode cX0_addSight 41 = .ok (.ireturn, 1) := by decide +kernel
theorem dX0_addSight_42 : decode cX0_addSight 42 = .ok (.aload_n 0, 1) := by decide +kernel
theorem dX0_addSight_43 : decode cX0_addSight 43 = .ok (.getfield 30, 3) := by decide +kernel
theorem dX0_addSight_46 : decode cX0_addSight 46 = .ok (.aload_n 0, 1) := by decide +kernel
theorem dX0_addSight_47 : decode cX0_addSight 47 = .ok (.getfield 76, 3) := by decide +kernel
theorem dX0_addSight_50 : decode cX0_addSight 50 = .ok (.iload_n 1, 1) := by decide +kernel
theorem dX0_addSight_51 : decode cX0_addSight 51 = .ok (.iastore, 1) := by decide +kernel
theorem dX0_addSight_52 : decode cX0_addSight 52 = .ok (.aload_n 0, 1) := by decide +kernel
theorem dX0_addSight_53 : decode cX0_addSight 53 = .ok (.getfield 33, 3) := by decide +kernel
theorem dX0_addSight_56 : decode cX0_addSight 56 = .ok (.aload_n 0, 1) := by decide +kernel
theorem dX0_addSight_57 : decode cX0_addSight 57 = .ok (.getfield 76, 3) := by decide +kernel
theorem dX0_addSight_60 : decode cX0_addSight 60 = .ok (.iload_n 2, 1) := by decide +kernel
theorem dX0_addSight_61 : decode cX0_addSight 61 = .ok (.iastore, 1) := by decide +kernel
theorem dX0_addSight_62 : decode cX0_addSight 62 = .ok (.aload_n 0, 1) := by decide +kernel
theorem dX0_addSight_63 : decode cX0_addSight 63 = .ok (.getfield 36, 3) := by decide +kernel
theorem dX0_addSight_66 : decode cX0_addSight 66 = .ok (.aload_n 0, 1) := by decide +kernel
theorem dX0_addSight_67 : decode cX0_addSight 67 = .ok (.getfield 76, 3) := by decide +kernel
theorem dX0_addSight_70 : decode cX0_addSight 70 = .ok (.iload_n 3, 1) := by decide +kernel
theorem dX0_addSight_71 : decode cX0_addSight 71 = .ok (.iastore, 1) := by decide +kernel
theorem dX0_addSight_72 : decode cX0_addSight 72 = .ok (.aload_n 0, 1) := by decide +kernel
theorem dX0_addSight_73 : decode cX0_addSight 73 = .ok (.dup, 1) := by decide +kernel
theorem dX0_addSight_74 : decode cX0_addSight 74 = .ok (.getfield 76, 3) := by decide +kernel
theorem dX0_addSight_77 : decode cX0_addSight 77 = .ok (.iconst 1, 1) := by decide +kernel
theorem dX0_addSight_78 : decode cX0_addSight 78 = .ok (.iadd, 1) := by decide +kernel
theorem dX0_addSight_79 : decode cX0_addSight 79 = .ok (.putfield 76, 3) := by decide +kernel
theorem dX0_addSight_82 : decode cX0_addSight 82 = .ok (.aload_n 0, 1) := by decide +kernel
theorem dX0_addSight_83 : decode cX0_addSight 83 = .ok (.getfield 76, 3) := by decide +kernel
theorem dX0_addSight_86 : decode cX0_addSight 86 = .ok (.ireturn, 1) := by decide +kernel
theorem dX0_dropSights_0 : decode cX0_dropSights 0 = .ok (.aload_n 0, 1) := by decide +kernel
theorem dX0_dropSights_1 : decode cX0_dropSights 1 = .ok (.getfield 76, 3) := by decide +kernel
theorem dX0_dropSights_4 : decode cX0_dropSights 4 = .ok (.istore_n 1, 1) := by decide +kernel
theorem dX0_dropSights_5 : decode cX0_dropSights 5 = .ok (.aload_n 0, 1) := by decide +kernel
theorem dX0_dropSights_6 : decode cX0_dropSights 6 = .ok (.iconst 0, 1) := by decide +kernel
theorem dX0_dropSights_7 : decode cX0_dropSights 7 = .ok (.putfield 76, 3) := by decide +kernel
theorem dX0_dropSights_10 : decode cX0_dropSights 10 = .ok (.iload_n 1, 1) := by decide +kernel
theorem dX0_dropSights_11 : decode cX0_dropSights 11 = .ok (.ireturn, 1) := by decide +kernel
theorem dX0_isBelow_0 : decode cX0_isBelow 0 = .ok (.aload_n 0, 1) := by decide +kernel
theorem dX0_isBelow_1 : decode cX0_isBelow 1 = .ok (.getfield 39, 3) := by decide +kernel
theorem dX0_isBelow_4 : decode cX0_isBelow 4 = .ok (.iload_n 2, 1) := by decide +kernel
theorem dX0_isBelow_5 : decode cX0_isBelow 5 = .ok (.iaload, 1) := by decide +kernel
theorem dX0_isBelow_6 : decode cX0_isBelow 6 = .ok (.iload_n 1, 1) := by decide +kernel
theorem dX0_isBelow_7 : decode cX0_isBelow 7 = .ok (.ishr, 1) := by decide +kernel
theorem dX0_isBelow_8 : decode cX0_isBelow 8 = .ok (.iconst 1, 1) := by decide +kernel
theorem dX0_isBelow_9 : decode cX0_isBelow 9 = .ok (.iand, 1) := by decide +kernel
theorem dX0_isBelow_10 : decode cX0_isBelow 10 = .ok (.iconst 1, 1) := by decide +kernel
theorem dX0_isBelow_11 : decode cX0_isBelow 11 = .ok (.if_icmp .ne 7, 3) := by decide +kernel
theorem dX0_isBelow_14 : decode cX0_isBelow 14 = .ok (.iconst 1, 1) := by decide +kernel
theorem dX0_isBelow_15 : decode cX0_isBelow 15 = .ok (.goto 4, 3) := by decide +kernel
theorem dX0_isBelow_18 : decode cX0_isBelow 18 = .ok (.iconst 0, 1) := by decide +kernel
theorem dX0_isBelow_19 : decode cX0_isBelow 19 = .ok (.ireturn, 1) := by decide +kernel
set_option maxRecDepth 20000 in
theorem ggX0_above_X0_isBelow : GoodIn wsX0_above wsX0_isBelow := goodIn_r _ [6, 7, 8, 9, 10, 11, 12, 13, 14, 15, 16, 17, 18, 19, 20, 21] (by decide +kernel) (by decide +kernel)
set_option maxRecDepth 20000 in
theorem gX0_above_X0_isBelow : GoodIn wsX0_above (wsV RX0 69 RX0 yX0_isBelow wsX0_isBelow) := goodIn_app (goodIn_of _ (by decide +kernel)) ggX0_above_X0_isBelow
theorem dX0_above_0 : decode cX0_above 0 = .ok (.iconst 0, 1) := by decide +kernel
theorem dX0_above_1 : decode cX0_above 1 = .ok (.istore_n 2, 1) := by decide +kernel
theorem dX0_above_2 : decode cX0_above 2 = .ok (.iconst 0, 1) := by decide +kernel
theorem dX0_above_3 : decode cX0_above 3 = .ok (.istore_n 3, 1) := by decide +kernel
theorem dX0_above_4 : decode cX0_above 4 = .ok (.iload_n 3, 1) := by decide +kernel
theorem dX0_above_5 : decode cX0_above 5 = .ok (.aload_n 0, 1) := by decide +kernel
theorem dX0_above_6 : decode cX0_above 6 = .ok (.getfield 45, 3) := by decide +kernel
theorem dX0_above_9 : decode cX0_above 9 = .ok (.if_icmp .ge 24, 3) := by decide +kernel
theorem dX0_above_12 : decode cX0_above 12 = .ok (.aload_n 0, 1) := by decide +kernel
theorem dX0_above_13 : decode cX0_above 13 = .ok (.iload_n 1, 1) := by decide +kernel
theorem dX0_above_14 : decode cX0_above 14 = .ok (.iload_n 3, 1) := by decide +kernel
theorem dX0_above_15 : decode cX0_above 15 = .ok (.invokevirtual 69, 3) := by decide +kernel
theorem dX0_above_18 : decode cX0_above 18 = .ok (.ifCond .eq 9, 3) := by decide +kernel
theorem dX0_above_21 : decode cX0_above 21 = .ok (.iload_n 2, 1) := by decide +kernel
theorem dX0_above_22 : decode cX0_above 22 = .ok (.iconst 1, 1) := by decide +kernel
theorem dX0_above_23 : decode cX0_above 23 = .ok (.iload_n 3, 1) := by decide +kernel
theorem dX0_above_24 : decode cX0_above 24 = .ok (.ishl, 1) := by decide +kernel
theorem dX0_above_25 : decode cX0_above 25 = .ok (.ior, 1) := by decide +kernel
theorem dX0_above_26 : decode cX0_above 26 = .ok (.istore_n 2, 1) := by decide +kernel
theorem dX0_above_27 : decode cX0_above 27 = .ok (.iinc 3 1, 3) := by decide +kernel
theorem dX0_above_30 : decode cX0_above 30 = .ok (.goto (-26), 3) := by decide +kernel
theorem dX0_above_33 : decode cX0_above 33 = .ok (.iload_n 2, 1) := by decide +kernel
theorem dX0_above_34 : decode cX0_above 34 = .ok (.ireturn, 1) := by decide +kernel
theorem dX0_pipesAt_0 : decode cX0_pipesAt 0 = .ok (.iconst 0, 1) := by decide +kernel
theorem dX0_pipesAt_1 : decode cX0_pipesAt 1 = .ok (.istore_n 3, 1) := by decide +kernel
theorem dX0_pipesAt_2 : decode cX0_pipesAt 2 = .ok (.iconst 0, 1) := by decide +kernel
theorem dX0_pipesAt_3 : decode cX0_pipesAt 3 = .ok (.istore 4, 2) := by decide +kernel
theorem dX0_pipesAt_5 : decode cX0_pipesAt 5 = .ok (.iload 4, 2) := by decide +kernel
theorem dX0_pipesAt_7 : decode cX0_pipesAt 7 = .ok (.aload_n 0, 1) := by decide +kernel
theorem dX0_pipesAt_8 : decode cX0_pipesAt 8 = .ok (.getfield 53, 3) := by decide +kernel
theorem dX0_pipesAt_11 : decode cX0_pipesAt 11 = .ok (.if_icmp .ge 20, 3) := by decide +kernel
theorem dX0_pipesAt_14 : decode cX0_pipesAt 14 = .ok (.aload_n 1, 1) := by decide +kernel
theorem dX0_pipesAt_15 : decode cX0_pipesAt 15 = .ok (.iload 4, 2) := by decide +kernel
theorem dX0_pipesAt_17 : decode cX0_pipesAt 17 = .ok (.iaload, 1) := by decide +kernel
theorem dX0_pipesAt_18 : decode cX0_pipesAt 18 = .ok (.iload_n 2, 1) := by decide +kernel
theorem dX0_pipesAt_19 : decode cX0_pipesAt 19 = .ok (.if_icmp .ne 6, 3) := by decide +kernel
theorem dX0_pipesAt_22 : decode cX0_pipesAt 22 = .ok (.iinc 3 1, 3) := by decide +kernel
theorem dX0_pipesAt_25 : decode cX0_pipesAt 25 = .ok (.iinc 4 1, 3) := by decide +kernel
theorem dX0_pipesAt_28 : decode cX0_pipesAt 28 = .ok (.goto (-23), 3) := by decide +kernel
theorem dX0_pipesAt_31 : decode cX0_pipesAt 31 = .ok (.iload_n 3, 1) := by decide +kernel
theorem dX0_pipesAt_32 : decode cX0_pipesAt 32 = .ok (.ireturn, 1) := by decide +kernel
set_option maxRecDepth 20000 in
theorem ggX0_leaving_X0_pumped : GoodIn wsX0_leaving wsX0_pumped := goodIn_r _ [8] (by decide +kernel) (by decide +kernel)
set_option maxRecDepth 20000 in
theorem gX0_leaving_X0_pumped : GoodIn wsX0_leaving (va_wsS RX0 79 yX0_pumped wsX0_pumped) := goodIn_app (goodIn_of _ (by decide +kernel)) ggX0_leaving_X0_pumped
theorem dX0_leaving_0 : decode cX0_leaving 0 = .ok (.aload_n 0, 1) := by decide +kernel
theorem dX0_leaving_1 : decode cX0_leaving 1 = .ok (.getfield 15, 3) := by decide +kernel
theorem dX0_leaving_4 : decode cX0_leaving 4 = .ok (.iload_n 1, 1) := by decide +kernel
theorem dX0_leaving_5 : decode cX0_leaving 5 = .ok (.iaload, 1) := by decide +kernel
theorem dX0_leaving_6 : decode cX0_leaving 6 = .ok (.istore 4, 2) := by decide +kernel
theorem dX0_leaving_8 : decode cX0_leaving 8 = .ok (.aload_n 0, 1) := by decide +kernel
theorem dX0_leaving_9 : decode cX0_leaving 9 = .ok (.getfield 9, 3) := by decide +kernel
theorem dX0_leaving_12 : decode cX0_leaving 12 = .ok (.iload_n 1, 1) := by decide +kernel
theorem dX0_leaving_13 : decode cX0_leaving 13 = .ok (.iaload, 1) := by decide +kernel
theorem dX0_leaving_14 : decode cX0_leaving 14 = .ok (.tableswitch 78 0 4 #[78, 34, 41, 50, 59], 34) := by decide +kernel
theorem dX0_leaving_48 : decode cX0_leaving 48 = .ok (.lload_n 2, 1) := by decide +kernel
theorem dX0_leaving_49 : decode cX0_leaving 49 = .ok (.iload 4, 2) := by decide +kernel
theorem dX0_leaving_51 : decode cX0_leaving 51 = .ok (.invokestatic 79, 3) := by decide +kernel
theorem dX0_leaving_54 : decode cX0_leaving 54 = .ok (.lreturn, 1) := by decide +kernel
theorem dX0_leaving_55 : decode cX0_leaving 55 = .ok (.lload_n 2, 1) := by decide +kernel
theorem dX0_leaving_56 : decode cX0_leaving 56 = .ok (.iload 4, 2) := by decide +kernel
theorem dX0_leaving_58 : decode cX0_leaving 58 = .ok (.lshl, 1) := by decide +kernel
theorem dX0_leaving_59 : decode cX0_leaving 59 = .ok (.ldc2_w 83, 3) := by decide +kernel
theorem dX0_leaving_62 : decode cX0_leaving 62 = .ok (.land, 1) := by decide +kernel
theorem dX0_leaving_63 : decode cX0_leaving 63 = .ok (.lreturn, 1) := by decide +kernel
theorem dX0_leaving_64 : decode cX0_leaving 64 = .ok (.lload_n 2, 1) := by decide +kernel
theorem dX0_leaving_65 : decode cX0_leaving 65 = .ok (.ldc2_w 85, 3) := by decide +kernel
theorem dX0_leaving_68 : decode cX0_leaving 68 = .ok (.iload 4, 2) := by decide +kernel
theorem dX0_leaving_70 : decode cX0_leaving 70 = .ok (.lshl, 1) := by decide +kernel
theorem dX0_leaving_71 : decode cX0_leaving 71 = .ok (.land, 1) := by decide +kernel
theorem dX0_leaving_72 : decode cX0_leaving 72 = .ok (.lreturn, 1) := by decide +kernel
theorem dX0_leaving_73 : decode cX0_leaving 73 = .ok (.lload_n 2, 1) := by decide +kernel
theorem dX0_leaving_74 : decode cX0_leaving 74 = .ok (.iload 4, 2) := by decide +kernel
theorem dX0_leaving_76 : decode cX0_leaving 76 = .ok (.invokestatic 79, 3) := by decide +kernel
theorem dX0_leaving_79 : decode cX0_leaving 79 = .ok (.iload 4, 2) := by decide +kernel
theorem dX0_leaving_81 : decode cX0_leaving 81 = .ok (.bipush 10, 2) := by decide +kernel
theorem dX0_leaving_83 : decode cX0_leaving 83 = .ok (.idiv, 1) := by decide +kernel
theorem dX0_leaving_84 : decode cX0_leaving 84 = .ok (.iconst 1, 1) := by decide +kernel
theorem dX0_leaving_85 : decode cX0_leaving 85 = .ok (.iadd, 1) := by decide +kernel
theorem dX0_leaving_86 : decode cX0_leaving 86 = .ok (.lshl, 1) := by decide +kernel
theorem dX0_leaving_87 : decode cX0_leaving 87 = .ok (.ldc2_w 83, 3) := by decide +kernel
theorem dX0_leaving_90 : decode cX0_leaving 90 = .ok (.land, 1) := by decide +kernel
theorem dX0_leaving_91 : decode cX0_leaving 91 = .ok (.lreturn, 1) := by decide +kernel
theorem dX0_leaving_92 : decode cX0_leaving 92 = .ok (.lload_n 2, 1) := by decide +kernel
theorem dX0_leaving_93 : decode cX0_leaving 93 = .ok (.lreturn, 1) := by decide +kernel
theorem dX0_brought_0 : decode cX0_brought 0 = .ok (.lconst 0, 1) := by decide +kernel
theorem dX0_brought_1 : decode cX0_brought 1 = .ok (.lstore 4, 2) := by decide +kernel
theorem dX0_brought_3 : decode cX0_brought 3 = .ok (.aload_n 0, 1) := by decide +kernel
theorem dX0_brought_4 : decode cX0_brought 4 = .ok (.getfield 24, 3) := by decide +kernel
theorem dX0_brought_7 : decode cX0_brought 7 = .ok (.iload_n 1, 1) := by decide +kernel
theorem dX0_brought_8 : decode cX0_brought 8 = .ok (.iaload, 1) := by decide +kernel
theorem dX0_brought_9 : decode cX0_brought 9 = .ok (.istore 6, 2) := by decide +kernel
theorem dX0_brought_11 : decode cX0_brought 11 = .ok (.iload 6, 2) := by decide +kernel
theorem dX0_brought_13 : decode cX0_brought 13 = .ok (.aload_n 0, 1) := by decide +kernel
theorem dX0_brought_14 : decode cX0_brought 14 = .ok (.getfield 27, 3) := by decide +kernel
theorem dX0_brought_17 : decode cX0_brought 17 = .ok (.iload_n 1, 1) := by decide +kernel
theorem dX0_brought_18 : decode cX0_brought 18 = .ok (.iaload, 1) := by decide +kernel
theorem dX0_brought_19 : decode cX0_brought 19 = .ok (.if_icmp .gt 18, 3) := by decide +kernel
theorem dX0_brought_22 : decode cX0_brought 22 = .ok (.lload 4, 2) := by decide +kernel
theorem dX0_brought_24 : decode cX0_brought 24 = .ok (.lload_n 2, 1) := by decide +kernel
theorem dX0_brought_25 : decode cX0_brought 25 = .ok (.iload 6, 2) := by decide +kernel
theorem dX0_brought_27 : decode cX0_brought 27 = .ok (.lshl, 1) := by decide +kernel
theorem dX0_brought_28 : decode cX0_brought 28 = .ok (.lor, 1) := by decide +kernel
theorem dX0_brought_29 : decode cX0_brought 29 = .ok (.lstore 4, 2) := by decide +kernel
theorem dX0_brought_31 : decode cX0_brought 31 = .ok (.iinc 6 1, 3) := by decide +kernel
theorem dX0_brought_34 : decode cX0_brought 34 = .ok (.goto (-23), 3) := by decide +kernel
theorem dX0_brought_37 : decode cX0_brought 37 = .ok (.lload 4, 2) := by decide +kernel
theorem dX0_brought_39 : decode cX0_brought 39 = .ok (.ldc2_w 83, 3) := by decide +kernel
theorem dX0_brought_42 : decode cX0_brought 42 = .ok (.land, 1) := by decide +kernel
theorem dX0_brought_43 : decode cX0_brought 43 = .ok (.lreturn, 1) := by decide +kernel
set_option maxRecDepth 20000 in
theorem ggX0_copyFrom_X0_copyRow : GoodIn wsX0_copyFrom wsX0_copyRow := goodIn_r _ [18, 19, 20, 21, 22, 23, 24, 25, 26] (by decide +kernel) (by decide +kernel)
set_option maxRecDepth 20000 in
theorem gX0_copyFrom_X0_copyRow : GoodIn wsX0_copyFrom (va_wsS RX0 87 yX0_copyRow wsX0_copyRow) := goodIn_app (goodIn_of _ (by decide +kernel)) ggX0_copyFrom_X0_copyRow
theorem dX0_copyFrom_0 : decode cX0_copyFrom 0 = .ok (.aload_n 0, 1) := by decide +kernel
theorem dX0_copyFrom_1 : decode cX0_copyFrom 1 = .ok (.aload_n 1, 1) := by decide +kernel
theorem dX0_copyFrom_2 : decode cX0_copyFrom 2 = .ok (.getfield 45, 3) := by decide +kernel
theorem dX0_copyFrom_5 : decode cX0_copyFrom 5 = .ok (.putfield 45, 3) := by decide +kernel
theorem dX0_copyFrom_8 : decode cX0_copyFrom 8 = .ok (.aload_n 1, 1) := by decide +kernel
theorem dX0_copyFrom_9 : decode cX0_copyFrom 9 = .ok (.getfield 9, 3) := by decide +kernel
theorem dX0_copyFrom_12 : decode cX0_copyFrom 12 = .ok (.aload_n 0, 1) := by decide +kernel
theorem dX0_copyFrom_13 : decode cX0_copyFrom 13 = .ok (.getfield 9, 3) := by decide +kernel
theorem dX0_copyFrom_16 : decode cX0_copyFrom 16 = .ok (.invokestatic 87, 3) := by decide +kernel
theorem dX0_copyFrom_19 : decode cX0_copyFrom 19 = .ok (.aload_n 1, 1) := by decide +kernel
theorem dX0_copyFrom_20 : decode cX0_copyFrom 20 = .ok (.getfield 15, 3) := by decide +kernel
theorem dX0_copyFrom_23 : decode cX0_copyFrom 23 = .ok (.aload_n 0, 1) := by decide +kernel
theorem dX0_copyFrom_24 : decode cX0_copyFrom 24 = .ok (.getfield 15, 3) := by decide +kernel
theorem dX0_copyFrom_27 : decode cX0_copyFrom 27 = .ok (.invokestatic 87, 3) := by decide +kernel
theorem dX0_copyFrom_30 : decode cX0_copyFrom 30 = .ok (.aload_n 1, 1) := by decide +kernel
theorem dX0_copyFrom_31 : decode cX0_copyFrom 31 = .ok (.getfield 39, 3) := by decide +kernel
theorem dX0_copyFrom_34 : decode cX0_copyFrom 34 = .ok (.aload_n 0, 1) := by decide +kernel
theorem dX0_copyFrom_35 : decode cX0_copyFrom 35 = .ok (.getfield 39, 3) := by decide +kernel
theorem dX0_copyFrom_38 : decode cX0_copyFrom 38 = .ok (.invokestatic 87, 3) := by decide +kernel
theorem dX0_copyFrom_41 : decode cX0_copyFrom 41 = .ok (.aload_n 0, 1) := by decide +kernel
theorem dX0_copyFrom_42 : decode cX0_copyFrom 42 = .ok (.aload_n 1, 1) := by decide +kernel
theorem dX0_copyFrom_43 : decode cX0_copyFrom 43 = .ok (.getfield 53, 3) := by decide +kernel
theorem dX0_copyFrom_46 : decode cX0_copyFrom 46 = .ok (.putfield 53, 3) := by decide +kernel
theorem dX0_copyFrom_49 : decode cX0_copyFrom 49 = .ok (.aload_n 1, 1) := by decide +kernel
theorem dX0_copyFrom_50 : decode cX0_copyFrom 50 = .ok (.getfield 18, 3) := by decide +kernel
theorem dX0_copyFrom_53 : decode cX0_copyFrom 53 = .ok (.aload_n 0, 1) := by decide +kernel
theorem dX0_copyFrom_54 : decode cX0_copyFrom 54 = .ok (.getfield 18, 3) := by decide +kernel
theorem dX0_copyFrom_57 : decode cX0_copyFrom 57 = .ok (.invokestatic 87, 3) := by decide +kernel
theorem dX0_copyFrom_60 : decode cX0_copyFrom 60 = .ok (.aload_n 1, 1) := by decide +kernel
theorem dX0_copyFrom_61 : decode cX0_copyFrom 61 = .ok (.getfield 21, 3) := by decide +kernel
theorem dX0_copyFrom_64 : decode cX0_copyFrom 64 = .ok (.aload_n 0, 1) := by decide +kernel
theorem dX0_copyFrom_65 : decode cX0_copyFrom 65 = .ok (.getfield 21, 3) := by decide +kernel
theorem dX0_copyFrom_68 : decode cX0_copyFrom 68 = .ok (.invokestatic 87, 3) := by decide +kernel
theorem dX0_copyFrom_71 : decode cX0_copyFrom 71 = .ok (.aload_n 1, 1) := by decide +kernel
theorem dX0_copyFrom_72 : decode cX0_copyFrom 72 = .ok (.getfield 24, 3) := by decide +kernel
theorem dX0_copyFrom_75 : decode cX0_copyFrom 75 = .ok (.aload_n 0, 1) := by decide +kernel
theorem dX0_copyFrom_76 : decode cX0_copyFrom 76 = .ok (.getfield 24, 3) := by decide +kernel
theorem dX0_copyFrom_79 : decode cX0_copyFrom 79 = .ok (.invokestatic 87, 3) := by decide +kernel
theorem dX0_copyFrom_82 : decode cX0_copyFrom 82 = .ok (.aload_n 1, 1) := by decide +kernel
theorem dX0_copyFrom_83 : decode cX0_copyFrom 83 = .ok (.getfield 27, 3) := by decide +kernel
theorem dX0_copyFrom_86 : decode cX0_copyFrom 86 = .ok (.aload_n 0, 1) := by decide +kernel
theorem dX0_copyFrom_87 : decode cX0_copyFrom 87 = .ok (.getfield 27, 3) := by decide +kernel
theorem dX0_copyFrom_90 : decode cX0_copyFrom 90 = .ok (.invokestatic 87, 3) := by decide +kernel
theorem dX0_copyFrom_93 : decode cX0_copyFrom 93 = .ok (.aload_n 1, 1) := by decide +kernel
theorem dX0_copyFrom_94 : decode cX0_copyFrom 94 = .ok (.getfield 42, 3) := by decide +kernel
theorem dX0_copyFrom_97 : decode cX0_copyFrom 97 = .ok (.aload_n 0, 1) := by decide +kernel
theorem dX0_copyFrom_98 : decode cX0_copyFrom 98 = .ok (.getfield 42, 3) := by decide +kernel
theorem dX0_copyFrom_101 : decode cX0_copyFrom 101 = .ok (.invokestatic 87, 3) := by decide +kernel
theorem dX0_copyFrom_104 : decode cX0_copyFrom 104 = .ok (.aload_n 0, 1) := by decide +kernel
theorem dX0_copyFrom_105 : decode cX0_copyFrom 105 = .ok (.aload_n 1, 1) := by decide +kernel
theorem dX0_copyFrom_106 : decode cX0_copyFrom 106 = .ok (.getfield 76, 3) := by decide +kernel
theorem dX0_copyFrom_109 : decode cX0_copyFrom 109 = .ok (.putfield 76, 3) := by decide +kernel
theorem dX0_copyFrom_112 : decode cX0_copyFrom 112 = .ok (.aload_n 1, 1) := by decide +kernel
theorem dX0_copyFrom_113 : decode cX0_copyFrom 113 = .ok (.getfield 30, 3) := by decide +kernel
theorem dX0_copyFrom_116 : decode cX0_copyFrom 116 = .ok (.aload_n 0, 1) := by decide +kernel
theorem dX0_copyFrom_117 : decode cX0_copyFrom 117 = .ok (.getfield 30, 3) := by decide +kernel
theorem dX0_copyFrom_120 : decode cX0_copyFrom 120 = .ok (.invokestatic 87, 3) := by decide +kernel
theorem dX0_copyFrom_123 : decode cX0_copyFrom 123 = .ok (.aload_n 1, 1) := by decide +kernel
theorem dX0_copyFrom_124 : decode cX0_copyFrom 124 = .ok (.getfield 33, 3) := by decide +kernel
theorem dX0_copyFrom_127 : decode cX0_copyFrom 127 = .ok (.aload_n 0, 1) := by decide +kernel
theorem dX0_copyFrom_128 : decode cX0_copyFrom 128 = .ok (.getfield 33, 3) := by decide +kernel
theorem dX0_copyFrom_131 : decode cX0_copyFrom 131 = .ok (.invokestatic 87, 3) := by decide +kernel
theorem dX0_copyFrom_134 : decode cX0_copyFrom 134 = .ok (.aload_n 1, 1) := by decide +kernel
theorem dX0_copyFrom_135 : decode cX0_copyFrom 135 = .ok (.getfield 36, 3) := by decide +kernel
theorem dX0_copyFrom_138 : decode cX0_copyFrom 138 = .ok (.aload_n 0, 1) := by decide +kernel
theorem dX0_copyFrom_139 : decode cX0_copyFrom 139 = .ok (.getfield 36, 3) := by decide +kernel
theorem dX0_copyFrom_142 : decode cX0_copyFrom 142 = .ok (.invokestatic 87, 3) := by decide +kernel
theorem dX0_copyFrom_145 : decode cX0_copyFrom 145 = .ok (.return_, 1) := by decide +kernel
set_option maxRecDepth 20000 in
theorem ggX0_findWays_X0_findBelow : GoodIn wsX0_findWays wsX0_findBelow := goodIn_r _ [5, 6, 7, 8, 9, 10, 23, 24, 25, 26, 27, 28, 29, 30, 31, 32, 33, 34, 35, 36] (by decide +kernel) (by decide +kernel)
set_option maxRecDepth 20000 in
theorem gX0_findWays_X0_findBelow : GoodIn wsX0_findWays (wsV RX0 91 RX0 yX0_findBelow wsX0_findBelow) := goodIn_app (goodIn_of _ (by decide +kernel)) ggX0_findWays_X0_findBelow
set_option maxRecDepth 20000 in
theorem ggX0_findWays_X0_findRoute : GoodIn wsX0_findWays wsX0_findRoute := goodIn_r _ [14, 6, 8, 7, 9, 15, 16, 17, 18, 19, 20, 21, 22, 23, 24, 25, 26, 27, 28, 29, 30, 31, 32, 33, 34, 35, 36] (by decide +kernel) (by decide +kernel)
set_option maxRecDepth 20000 in
theorem gX0_findWays_X0_findRoute : GoodIn wsX0_findWays (wsV RX0 94 RX0 yX0_findRoute wsX0_findRoute) := goodIn_app (goodIn_of _ (by decide +kernel)) ggX0_findWays_X0_findRoute
theorem dX0_findWays_0 : decode cX0_findWays 0 = .ok (.aload_n 0, 1) := by decide +kernel
theorem dX0_findWays_1 : decode cX0_findWays 1 = .ok (.invokevirtual 91, 3) := by decide +kernel
theorem dX0_findWays_4 : decode cX0_findWays 4 = .ok (.aload_n 0, 1) := by decide +kernel
theorem dX0_findWays_5 : decode cX0_findWays 5 = .ok (.invokevirtual 94, 3) := by decide +kernel
theorem dX0_findWays_8 : decode cX0_findWays 8 = .ok (.return_, 1) := by decide +kernel
theorem dX0_findBelow_0 : decode cX0_findBelow 0 = .ok (.iconst 0, 1) := by decide +kernel
theorem dX0_findBelow_1 : decode cX0_findBelow 1 = .ok (.istore_n 1, 1) := by decide +kernel
theorem dX0_findBelow_2 : decode cX0_findBelow 2 = .ok (.iload_n 1, 1) := by decide +kernel
theorem dX0_findBelow_3 : decode cX0_findBelow 3 = .ok (.aload_n 0, 1) := by decide +kernel
theorem dX0_findBelow_4 : decode cX0_findBelow 4 = .ok (.getfield 45, 3) := by decide +kernel
theorem dX0_findBelow_7 : decode cX0_findBelow 7 = .ok (.if_icmp .ge 18, 3) := by decide +kernel
theorem dX0_findBelow_10 : decode cX0_findBelow 10 = .ok (.aload_n 0, 1) := by decide +kernel
theorem dX0_findBelow_11 : decode cX0_findBelow 11 = .ok (.getfield 39, 3) := by decide +kernel
theorem dX0_findBelow_14 : decode cX0_findBelow 14 = .ok (.iload_n 1, 1) := by decide +kernel
theorem dX0_findBelow_15 : decode cX0_findBelow 15 = .ok (.iconst 1, 1) := by decide +kernel
theorem dX0_findBelow_16 : decode cX0_findBelow 16 = .ok (.iload_n 1, 1) := by decide +kernel
theorem dX0_findBelow_17 : decode cX0_findBelow 17 = .ok (.ishl, 1) := by decide +kernel
theorem dX0_findBelow_18 : decode cX0_findBelow 18 = .ok (.iastore, 1) := by decide +kernel
theorem dX0_findBelow_19 : decode cX0_findBelow 19 = .ok (.iinc 1 1, 3) := by decide +kernel
theorem dX0_findBelow_22 : decode cX0_findBelow 22 = .ok (.goto (-20), 3) := by decide +kernel
theorem dX0_findBelow_25 : decode cX0_findBelow 25 = .ok (.iconst 1, 1) := by decide +kernel
theorem dX0_findBelow_26 : decode cX0_findBelow 26 = .ok (.istore_n 1, 1) := by decide +kernel
theorem dX0_findBelow_27 : decode cX0_findBelow 27 = .ok (.iload_n 1, 1) := by decide +kernel
theorem dX0_findBelow_28 : decode cX0_findBelow 28 = .ok (.aload_n 0, 1) := by decide +kernel
theorem dX0_findBelow_29 : decode cX0_findBelow 29 = .ok (.getfield 45, 3) := by decide +kernel
theorem dX0_findBelow_32 : decode cX0_findBelow 32 = .ok (.if_icmp .ge 50, 3) := by decide +kernel
theorem dX0_findBelow_35 : decode cX0_findBelow 35 = .ok (.iconst 0, 1) := by decide +kernel
theorem dX0_findBelow_36 : decode cX0_findBelow 36 = .ok (.istore_n 2, 1) := by decide +kernel
theorem dX0_findBelow_37 : decode cX0_findBelow 37 = .ok (.iload_n 2, 1) := by decide +kernel
theorem dX0_findBelow_38 : decode cX0_findBelow 38 = .ok (.aload_n 0, 1) := by decide +kernel
theorem dX0_findBelow_39 : decode cX0_findBelow 39 = .ok (.getfield 53, 3) := by decide +kernel
theorem dX0_findBelow_42 : decode cX0_findBelow 42 = .ok (.if_icmp .ge 34, 3) := by decide +kernel
theorem dX0_findBelow_45 : decode cX0_findBelow 45 = .ok (.aload_n 0, 1) := by decide +kernel
theorem dX0_findBelow_46 : decode cX0_findBelow 46 = .ok (.getfield 39, 3) := by decide +kernel
theorem dX0_findBelow_49 : decode cX0_findBelow 49 = .ok (.aload_n 0, 1) := by decide +kernel
theorem dX0_findBelow_50 : decode cX0_findBelow 50 = .ok (.getfield 18, 3) := by decide +kernel
theorem dX0_findBelow_53 : decode cX0_findBelow 53 = .ok (.iload_n 2, 1) := by decide +kernel
theorem dX0_findBelow_54 : decode cX0_findBelow 54 = .ok (.iaload, 1) := by decide +kernel
theorem dX0_findBelow_55 : decode cX0_findBelow 55 = .ok (.dup2, 1) := by decide +kernel
theorem dX0_findBelow_56 : decode cX0_findBelow 56 = .ok (.iaload, 1) := by decide +kernel
theorem dX0_findBelow_57 : decode cX0_findBelow 57 = .ok (.aload_n 0, 1) := by decide +kernel
theorem dX0_findBelow_58 : decode cX0_findBelow 58 = .ok (.getfield 39, 3) := by decide +kernel
theorem dX0_findBelow_61 : decode cX0_findBelow 61 = .ok (.aload_n 0, 1) := by decide +kernel
theorem dX0_findBelow_62 : decode cX0_findBelow 62 = .ok (.getfield 21, 3) := by decide +kernel
theorem dX0_findBelow_65 : decode cX0_findBelow 65 = .ok (.iload_n 2, 1) := by decide +kernel
theorem dX0_findBelow_66 : decode cX0_findBelow 66 = .ok (.iaload, 1) := by decide +kernel
theorem dX0_findBelow_67 : decode cX0_findBelow 67 = .ok (.iaload, 1) := by decide +kernel
theorem dX0_findBelow_68 : decode cX0_findBelow 68 = .ok (.ior, 1) := by decide +kernel
theorem dX0_findBelow_69 : decode cX0_findBelow 69 = .ok (.iastore, 1) := by decide +kernel
theorem dX0_findBelow_70 : decode cX0_findBelow 70 = .ok (.iinc 2 1, 3) := by decide +kernel
theorem dX0_findBelow_73 : decode cX0_findBelow 73 = .ok (.goto (-36), 3) := by decide +kernel
theorem dX0_findBelow_76 : decode cX0_findBelow 76 = .ok (.iinc 1 1, 3) := by decide +kernel
theorem dX0_findBelow_79 : decode cX0_findBelow 79 = .ok (.goto (-52), 3) := by decide +kernel
theorem dX0_findBelow_82 : decode cX0_findBelow 82 = .ok (.return_, 1) := by decide +kernel
set_option maxRecDepth 20000 in
theorem ggX0_findRoute_J6_bitCount_0f7a4 : GoodIn wsX0_findRoute wsJ6_bitCount_0f7a4 := goodIn_r _ [9, 10, 11, 12] (by decide +kernel) (by decide +kernel)
set_option maxRecDepth 20000 in
theorem gX0_findRoute_J6_bitCount_0f7a4 : GoodIn wsX0_findRoute (va_wsS RX0 97 yJ6_bitCount_0f7a4 wsJ6_bitCount_0f7a4) := goodIn_app (goodIn_of _ (by decide +kernel)) ggX0_findRoute_J6_bitCount_0f7a4
theorem dX0_findRoute_0 : decode cX0_findRoute 0 = .ok (.iconst 0, 1) := by decide +kernel
theorem dX0_findRoute_1 : decode cX0_findRoute 1 = .ok (.istore_n 1, 1) := by decide +kernel
theorem dX0_findRoute_2 : decode cX0_findRoute 2 = .ok (.aload_n 0, 1) := by decide +kernel
theorem dX0_findRoute_3 : decode cX0_findRoute 3 = .ok (.getfield 45, 3) := by decide +kernel
theorem dX0_findRoute_6 : decode cX0_findRoute 6 = .ok (.istore_n 2, 1) := by decide +kernel
theorem dX0_findRoute_7 : decode cX0_findRoute 7 = .ok (.iload_n 2, 1) := by decide +kernel
theorem dX0_findRoute_8 : decode cX0_findRoute 8 = .ok (.ifCond .le 59, 3) := by decide +kernel
theorem dX0_findRoute_11 : decode cX0_findRoute 11 = .ok (.iconst 0, 1) := by decide +kernel
theorem dX0_findRoute_12 : decode cX0_findRoute 12 = .ok (.istore_n 3, 1) := by decide +kernel
theorem dX0_findRoute_13 : decode cX0_findRoute 13 = .ok (.iload_n 3, 1) := by decide +kernel
theorem dX0_findRoute_14 : decode cX0_findRoute 14 = .ok (.aload_n 0, 1) := by decide +kernel
theorem dX0_findRoute_15 : decode cX0_findRoute 15 = .ok (.getfield 53, 3) := by decide +kernel
theorem dX0_findRoute_18 : decode cX0_findRoute 18 = .ok (.if_icmp .ge 43, 3) := by decide +kernel
theorem dX0_findRoute_21 : decode cX0_findRoute 21 = .ok (.aload_n 0, 1) := by decide +kernel
theorem dX0_findRoute_22 : decode cX0_findRoute 22 = .ok (.getfield 39, 3) := by decide +kernel
theorem dX0_findRoute_25 : decode cX0_findRoute 25 = .ok (.aload_n 0, 1) := by decide +kernel
theorem dX0_findRoute_26 : decode cX0_findRoute 26 = .ok (.getfield 18, 3) := by decide +kernel
theorem dX0_findRoute_29 : decode cX0_findRoute 29 = .ok (.iload_n 3, 1) := by decide +kernel
theorem dX0_findRoute_30 : decode cX0_findRoute 30 = .ok (.iaload, 1) := by decide +kernel
theorem dX0_findRoute_31 : decode cX0_findRoute 31 = .ok (.iaload, 1) := by decide +kernel
theorem dX0_findRoute_32 : decode cX0_findRoute 32 = .ok (.invokestatic 97, 3) := by decide +kernel
theorem dX0_findRoute_35 : decode cX0_findRoute 35 = .ok (.iload_n 2, 1) := by decide +kernel
theorem dX0_findRoute_36 : decode cX0_findRoute 36 = .ok (.if_icmp .ne 19, 3) := by decide +kernel
theorem dX0_findRoute_39 : decode cX0_findRoute 39 = .ok (.iload_n 1, 1) := by decide +kernel
theorem dX0_findRoute_40 : decode cX0_findRoute 40 = .ok (.bipush 16, 2) := by decide +kernel
theorem dX0_findRoute_42 : decode cX0_findRoute 42 = .ok (.if_icmp .ge 13, 3) := by decide +kernel
theorem dX0_findRoute_45 : decode cX0_findRoute 45 = .ok (.aload_n 0, 1) := by decide +kernel
theorem dX0_findRoute_46 : decode cX0_findRoute 46 = .ok (.getfield 42, 3) := by decide +kernel
theorem dX0_findRoute_49 : decode cX0_findRoute 49 = .ok (.iload_n 1, 1) := by decide +kernel
theorem dX0_findRoute_50 : decode cX0_findRoute 50 = .ok (.iload_n 3, 1) := by decide +kernel
theorem dX0_findRoute_51 : decode cX0_findRoute 51 = .ok (.iastore, 1) := by decide +kernel
theorem dX0_findRoute_52 : decode cX0_findRoute 52 = .ok (.iinc 1 1, 3) := by decide +kernel
theorem dX0_findRoute_55 : decode cX0_findRoute 55 = .ok (.iinc 3 1, 3) := by decide +kernel
theorem dX0_findRoute_58 : decode cX0_findRoute 58 = .ok (.goto (-45), 3) := by decide +kernel
theorem dX0_findRoute_61 : decode cX0_findRoute 61 = .ok (.iinc 2 (-1), 3) := by decide +kernel
theorem dX0_findRoute_64 : decode cX0_findRoute 64 = .ok (.goto (-57), 3) := by decide +kernel
theorem dX0_findRoute_67 : decode cX0_findRoute 67 = .ok (.return_, 1) := by decide +kernel
theorem dX0_pumped_0 : decode cX0_pumped 0 = .ok (.iload_n 2, 1) := by decide +kernel
theorem dX0_pumped_1 : decode cX0_pumped 1 = .ok (.iconst 1, 1) := by decide +kernel
theorem dX0_pumped_2 : decode cX0_pumped 2 = .ok (.if_icmp .ge 5, 3) := by decide +kernel
theorem dX0_pumped_5 : decode cX0_pumped 5 = .ok (.lconst 0, 1) := by decide +kernel
theorem dX0_pumped_6 : decode cX0_pumped 6 = .ok (.lreturn, 1) := by decide +kernel
theorem dX0_pumped_7 : decode cX0_pumped 7 = .ok (.lload_n 0, 1) := by decide +kernel
theorem dX0_pumped_8 : decode cX0_pumped 8 = .ok (.lconst 1, 1) := by decide +kernel
theorem dX0_pumped_9 : decode cX0_pumped 9 = .ok (.land, 1) := by decide +kernel
theorem dX0_pumped_10 : decode cX0_pumped 10 = .ok (.lstore_n 3, 1) := by decide +kernel
theorem dX0_pumped_11 : decode cX0_pumped 11 = .ok (.iload_n 2, 1) := by decide +kernel
theorem dX0_pumped_12 : decode cX0_pumped 12 = .ok (.istore 5, 2) := by decide +kernel
theorem dX0_pumped_14 : decode cX0_pumped 14 = .ok (.iload 5, 2) := by decide +kernel
theorem dX0_pumped_16 : decode cX0_pumped 16 = .ok (.bipush 62, 2) := by decide +kernel
theorem dX0_pumped_18 : decode cX0_pumped 18 = .ok (.if_icmp .gt 42, 3) := by decide +kernel
theorem dX0_pumped_21 : decode cX0_pumped 21 = .ok (.lconst 1, 1) := by decide +kernel
theorem dX0_pumped_22 : decode cX0_pumped 22 = .ok (.iload_n 2, 1) := by decide +kernel
theorem dX0_pumped_23 : decode cX0_pumped 23 = .ok (.lshl, 1) := by decide +kernel
theorem dX0_pumped_24 : decode cX0_pumped 24 = .ok (.lconst 1, 1) := by decide +kernel
theorem dX0_pumped_25 : decode cX0_pumped 25 = .ok (.lsub, 1) := by decide +kernel
theorem dX0_pumped_26 : decode cX0_pumped 26 = .ok (.iload 5, 2) := by decide +kernel
theorem dX0_pumped_28 : decode cX0_pumped 28 = .ok (.iload_n 2, 1) := by decide +kernel
theorem dX0_pumped_29 : decode cX0_pumped 29 = .ok (.isub, 1) := by decide +kernel
theorem dX0_pumped_30 : decode cX0_pumped 30 = .ok (.iconst 1, 1) := by decide +kernel
theorem dX0_pumped_31 : decode cX0_pumped 31 = .ok (.iadd, 1) := by decide +kernel
theorem dX0_pumped_32 : decode cX0_pumped 32 = .ok (.lshl, 1) := by decide +kernel
theorem dX0_pumped_33 : decode cX0_pumped 33 = .ok (.lstore 6, 2) := by decide +kernel
theorem dX0_pumped_35 : decode cX0_pumped 35 = .ok (.lload_n 0, 1) := by decide +kernel
theorem dX0_pumped_36 : decode cX0_pumped 36 = .ok (.lload 6, 2) := by decide +kernel
theorem dX0_pumped_38 : decode cX0_pumped 38 = .ok (.land, 1) := by decide +kernel
theorem dX0_pumped_39 : decode cX0_pumped 39 = .ok (.lconst 0, 1) := by decide +kernel
theorem dX0_pumped_40 : decode cX0_pumped 40 = .ok (.lcmp, 1) := by decide +kernel
theorem dX0_pumped_41 : decode cX0_pumped 41 = .ok (.ifCond .eq 10, 3) := by decide +kernel
theorem dX0_pumped_44 : decode cX0_pumped 44 = .ok (.lload_n 3, 1) := by decide +kernel
theorem dX0_pumped_45 : decode cX0_pumped 45 = .ok (.lconst 1, 1) := by decide +kernel
theorem dX0_pumped_46 : decode cX0_pumped 46 = .ok (.iload 5, 2) := by decide +kernel
theorem dX0_pumped_48 : decode cX0_pumped 48 = .ok (.lshl, 1) := by decide +kernel
theorem dX0_pumped_49 : decode cX0_pumped 49 = .ok (.lor, 1) := by decide +kernel
theorem dX0_pumped_50 : decode cX0_pumped 50 = .ok (.lstore_n 3, 1) := by decide +kernel
theorem dX0_pumped_51 : decode cX0_pumped 51 = .ok (.iload 5, 2) := by decide +kernel
theorem dX0_pumped_53 : decode cX0_pumped 53 = .ok (.iload_n 2, 1) := by decide +kernel
theorem dX0_pumped_54 : decode cX0_pumped 54 = .ok (.iadd, 1) := by decide +kernel
theorem dX0_pumped_55 : decode cX0_pumped 55 = .ok (.istore 5, 2) := by decide +kernel
theorem dX0_pumped_57 : decode cX0_pumped 57 = .ok (.goto (-43), 3) := by decide +kernel
theorem dX0_pumped_60 : decode cX0_pumped 60 = .ok (.lload_n 3, 1) := by decide +kernel
theorem dX0_pumped_61 : decode cX0_pumped 61 = .ok (.lreturn, 1) := by decide +kernel
set_option maxRecDepth 20000 in
theorem ggX0_isKind_X5_within : GoodIn wsX0_isKind wsX5_within := goodIn_r _ [3] (by decide +kernel) (by decide +kernel)
set_option maxRecDepth 20000 in
theorem gX0_isKind_X5_within_n49 : GoodIn wsX0_isKind (wsX5_within) := ggX0_isKind_X5_within
theorem dX0_isKind_0 : decode cX0_isKind 0 = .ok (.iload_n 0, 1) := by decide +kernel
theorem dX0_isKind_1 : decode cX0_isKind 1 = .ok (.iconst 0, 1) := by decide +kernel
theorem dX0_isKind_2 : decode cX0_isKind 2 = .ok (.iconst 4, 1) := by decide +kernel
theorem dX0_isKind_3 : decode cX0_isKind 3 = .ok (.invokestatic 49, 3) := by decide +kernel
theorem dX0_isKind_6 : decode cX0_isKind 6 = .ok (.ireturn, 1) := by decide +kernel
set_option maxRecDepth 20000 in
theorem ggX0_isPace_X5_within : GoodIn wsX0_isPace wsX5_within := goodIn_r _ [3] (by decide +kernel) (by decide +kernel)
set_option maxRecDepth 20000 in
theorem gX0_isPace_X5_within_n49 : GoodIn wsX0_isPace (wsX5_within) := ggX0_isPace_X5_within
theorem dX0_isPace_0 : decode cX0_isPace 0 = .ok (.iload_n 0, 1) := by decide +kernel
theorem dX0_isPace_1 : decode cX0_isPace 1 = .ok (.iconst 1, 1) := by decide +kernel
theorem dX0_isPace_2 : decode cX0_isPace 2 = .ok (.bipush 15, 2) := by decide +kernel
theorem dX0_isPace_4 : decode cX0_isPace 4 = .ok (.invokestatic 49, 3) := by decide +kernel
theorem dX0_isPace_7 : decode cX0_isPace 7 = .ok (.ireturn, 1) := by decide +kernel
theorem dX0_copyRow_0 : decode cX0_copyRow 0 = .ok (.aload_n 0, 1) := by decide +kernel
theorem dX0_copyRow_1 : decode cX0_copyRow 1 = .ok (.iconst 0, 1) := by decide +kernel
theorem dX0_copyRow_2 : decode cX0_copyRow 2 = .ok (.aload_n 1, 1) := by decide +kernel
theorem dX0_copyRow_3 : decode cX0_copyRow 3 = .ok (.iconst 0, 1) := by decide +kernel
theorem dX0_copyRow_4 : decode cX0_copyRow 4 = .ok (.aload_n 0, 1) := by decide +kernel
theorem dX0_copyRow_5 : decode cX0_copyRow 5 = .ok (.arraylength, 1) := by decide +kernel
theorem dX0_copyRow_6 : decode cX0_copyRow 6 = .ok (.aload_n 1, 1) := by decide +kernel
theorem dX0_copyRow_7 : decode cX0_copyRow 7 = .ok (.arraylength, 1) := by decide +kernel
theorem dX0_copyRow_8 : decode cX0_copyRow 8 = .ok (.invokestatic 103, 3) := by decide +kernel
theorem dX0_copyRow_11 : decode cX0_copyRow 11 = .ok (.invokestatic 109, 3) := by decide +kernel
theorem dX0_copyRow_14 : decode cX0_copyRow 14 = .ok (.return_, 1) := by decide +kernel
theorem dX1_init_0 : decode cX1_init 0 = .ok (.aload_n 0, 1) := by decide +kernel
theorem dX1_init_1 : decode cX1_init 1 = .ok (.invokespecial 3, 3) := by decide +kernel
theorem dX1_init_4 : decode cX1_init 4 = .ok (.aload_n 0, 1) := by decide +kernel
theorem dX1_init_5 : decode cX1_init 5 = .ok (.bipush 10, 2) := by decide +kernel
theorem dX1_init_7 : decode cX1_init 7 = .ok (.newarray .long, 2) := by decide +kernel
theorem dX1_init_9 : decode cX1_init 9 = .ok (.putfield 9, 3) := by decide +kernel
theorem dX1_init_12 : decode cX1_init 12 = .ok (.aload_n 0, 1) := by decide +kernel
theorem dX1_init_13 : decode cX1_init 13 = .ok (.bipush 10, 2) := by decide +kernel
theorem dX1_init_15 : decode cX1_init 15 = .ok (.newarray .int, 2) := by decide +kernel
theorem dX1_init_17 : decode cX1_init 17 = .ok (.putfield 15, 3) := by decide +kernel
theorem dX1_init_20 : decode cX1_init 20 = .ok (.return_, 1) := by decide +kernel
theorem dX1_outdate_0 : decode cX1_outdate 0 = .ok (.aload_n 0, 1) := by decide +kernel
theorem dX1_outdate_1 : decode cX1_outdate 1 = .ok (.iconst 0, 1) := by decide +kernel
theorem dX1_outdate_2 : decode cX1_outdate 2 = .ok (.putfield 19, 3) := by decide +kernel
theorem dX1_outdate_5 : decode cX1_outdate 5 = .ok (.return_, 1) := by decide +kernel
set_option maxRecDepth 20000 in
theorem ggX1_walk_J7_fill_d0a16 : GoodIn wsX1_walk wsJ7_fill_d0a16 := goodIn_r _ [9] (by decide +kernel) (by decide +kernel)
set_option maxRecDepth 20000 in
theorem gX1_walk_J7_fill_d0a16 : GoodIn wsX1_walk (va_wsS RX1 23 yJ7_fill_d0a16 wsJ7_fill_d0a16) := goodIn_app (goodIn_of _ (by decide +kernel)) ggX1_walk_J7_fill_d0a16
set_option maxRecDepth 20000 in
theorem ggX1_walk_X0_leaving : GoodIn wsX1_walk wsX0_leaving := goodIn_r _ [14, 15, 16, 17, 18, 19, 20, 13, 21, 31, 32, 33, 34, 35, 36, 37, 38, 39, 40, 41, 42, 43, 44] (by decide +kernel) (by decide +kernel)
set_option maxRecDepth 20000 in
theorem gX1_walk_X0_leaving : GoodIn wsX1_walk (wsV RX1 43 RX0 yX0_leaving wsX0_leaving) := goodIn_app (goodIn_of _ (by decide +kernel)) ggX1_walk_X0_leaving
set_option maxRecDepth 20000 in
theorem ggX1_walk_X0_brought : GoodIn wsX1_walk wsX0_brought := goodIn_r _ [25, 26, 27, 17, 31, 32, 33, 34, 35, 36, 37, 38, 39, 40, 41, 42, 43, 44] (by decide +kernel) (by decide +kernel)
set_option maxRecDepth 20000 in
theorem gX1_walk_X0_brought : GoodIn wsX1_walk (wsV RX1 47 RX0 yX0_brought wsX0_brought) := goodIn_app (goodIn_of _ (by decide +kernel)) ggX1_walk_X0_brought
theorem dX1_walk_0 : decode cX1_walk 0 = .ok (.aload_n 0, 1) := by decide +kernel
theorem dX1_walk_1 : decode cX1_walk 1 = .ok (.getfield 9, 3) := by decide +kernel
theorem dX1_walk_4 : decode cX1_walk 4 = .ok (.lconst 0, 1) := by decide +kernel
theorem dX1_walk_5 : decode cX1_walk 5 = .ok (.invokestatic 23, 3) := by decide +kernel
theorem dX1_walk_8 : decode cX1_walk 8 = .ok (.aload_n 0, 1) := by decide +kernel
theorem dX1_walk_9 : decode cX1_walk 9 = .ok (.getfield 9, 3) := by decide +kernel
theorem dX1_walk_12 : decode cX1_walk 12 = .ok (.iload_n 2, 1) := by decide +kernel
theorem dX1_walk_13 : decode cX1_walk 13 = .ok (.lconst 1, 1) := by decide +kernel
theorem dX1_walk_14 : decode cX1_walk 14 = .ok (.iload_n 3, 1) := by decide +kernel
theorem dX1_walk_15 : decode cX1_walk 15 = .ok (.lshl, 1) := by decide +kernel
theorem dX1_walk_16 : decode cX1_walk 16 = .ok (.lastore, 1) := by decide +kernel
theorem dX1_walk_17 : decode cX1_walk 17 = .ok (.iconst 0, 1) := by decide +kernel
theorem dX1_walk_18 : decode cX1_walk 18 = .ok (.istore 4, 2) := by decide +kernel
theorem dX1_walk_20 : decode cX1_walk 20 = .ok (.iload 4, 2) := by decide +kernel
theorem dX1_walk_22 : decode cX1_walk 22 = .ok (.aload_n 1, 1) := by decide +kernel
theorem dX1_walk_23 : decode cX1_walk 23 = .ok (.getfield 29, 3) := by decide +kernel
theorem dX1_walk_26 : decode cX1_walk 26 = .ok (.if_icmp .ge 73, 3) := by decide +kernel
theorem dX1_walk_29 : decode cX1_walk 29 = .ok (.aload_n 1, 1) := by decide +kernel
theorem dX1_walk_30 : decode cX1_walk 30 = .ok (.getfield 34, 3) := by decide +kernel
theorem dX1_walk_33 : decode cX1_walk 33 = .ok (.iload 4, 2) := by decide +kernel
theorem dX1_walk_35 : decode cX1_walk 35 = .ok (.iaload, 1) := by decide +kernel
theorem dX1_walk_36 : decode cX1_walk 36 = .ok (.istore 5, 2) := by decide +kernel
theorem dX1_walk_38 : decode cX1_walk 38 = .ok (.aload_n 1, 1) := by decide +kernel
theorem dX1_walk_39 : decode cX1_walk 39 = .ok (.getfield 37, 3) := by decide +kernel
theorem dX1_walk_42 : decode cX1_walk 42 = .ok (.iload 5, 2) := by decide +kernel
theorem dX1_walk_44 : decode cX1_walk 44 = .ok (.iaload, 1) := by decide +kernel
theorem dX1_walk_45 : decode cX1_walk 45 = .ok (.istore 6, 2) := by decide +kernel
theorem dX1_walk_47 : decode cX1_walk 47 = .ok (.aload_n 0, 1) := by decide +kernel
theorem dX1_walk_48 : decode cX1_walk 48 = .ok (.getfield 9, 3) := by decide +kernel
theorem dX1_walk_51 : decode cX1_walk 51 = .ok (.iload 6, 2) := by decide +kernel
theorem dX1_walk_53 : decode cX1_walk 53 = .ok (.laload, 1) := by decide +kernel
theorem dX1_walk_54 : decode cX1_walk 54 = .ok (.lconst 0, 1) := by decide +kernel
theorem dX1_walk_55 : decode cX1_walk 55 = .ok (.lcmp, 1) := by decide +kernel
theorem dX1_walk_56 : decode cX1_walk 56 = .ok (.ifCond .eq 37, 3) := by decide +kernel
theorem dX1_walk_59 : decode cX1_walk 59 = .ok (.aload_n 0, 1) := by decide +kernel
theorem dX1_walk_60 : decode cX1_walk 60 = .ok (.getfield 9, 3) := by decide +kernel
theorem dX1_walk_63 : decode cX1_walk 63 = .ok (.aload_n 1, 1) := by decide +kernel
theorem dX1_walk_64 : decode cX1_walk 64 = .ok (.getfield 40, 3) := by decide +kernel
theorem dX1_walk_67 : decode cX1_walk 67 = .ok (.iload 5, 2) := by decide +kernel
theorem dX1_walk_69 : decode cX1_walk 69 = .ok (.iaload, 1) := by decide +kernel
theorem dX1_walk_70 : decode cX1_walk 70 = .ok (.dup2, 1) := by decide +kernel
theorem dX1_walk_71 : decode cX1_walk 71 = .ok (.laload, 1) := by decide +kernel
theorem dX1_walk_72 : decode cX1_walk 72 = .ok (.aload_n 1, 1) := by decide +kernel
theorem dX1_walk_73 : decode cX1_walk 73 = .ok (.iload 5, 2) := by decide +kernel
theorem dX1_walk_75 : decode cX1_walk 75 = .ok (.aload_n 1, 1) := by decide +kernel
theorem dX1_walk_76 : decode cX1_walk 76 = .ok (.iload 6, 2) := by decide +kernel
theorem dX1_walk_78 : decode cX1_walk 78 = .ok (.aload_n 0, 1) := by decide +kernel
theorem dX1_walk_79 : decode cX1_walk 79 = .ok (.getfield 9, 3) := by decide +kernel
theorem dX1_walk_82 : decode cX1_walk 82 = .ok (.iload 6, 2) := by decide +kernel
theorem dX1_walk_84 : decode cX1_walk 84 = .ok (.laload, 1) := by decide +kernel
theorem dX1_walk_85 : decode cX1_walk 85 = .ok (.invokevirtual 43, 3) := by decide +kernel
theorem dX1_walk_88 : decode cX1_walk 88 = .ok (.invokevirtual 47, 3) := by decide +kernel
theorem dX1_walk_91 : decode cX1_walk 91 = .ok (.lor, 1) := by decide +kernel
theorem dX1_walk_92 : decode cX1_walk 92 = .ok (.lastore, 1) := by decide +kernel
theorem dX1_walk_93 : decode cX1_walk 93 = .ok (.iinc 4 1, 3) := by decide +kernel
theorem dX1_walk_96 : decode cX1_walk 96 = .ok (.goto (-76), 3) := by decide +kernel
theorem dX1_walk_99 : decode cX1_walk 99 = .ok (.return_, 1) := by decide +kernel
set_option maxRecDepth 20000 in
theorem ggX1_agrees_X1_agreesWith : GoodIn wsX1_agrees wsX1_agreesWith := goodIn_r _ [6, 7, 8, 9, 10, 25, 26, 27, 11, 12, 13, 14, 15, 16, 17, 18, 19, 20, 21, 22, 23, 24] (by decide +kernel) (by decide +kernel)
set_option maxRecDepth 20000 in
theorem gX1_agrees_X1_agreesWith : GoodIn wsX1_agrees (wsV RX1 53 RX1 yX1_agreesWith wsX1_agreesWith) := goodIn_app (goodIn_of _ (by decide +kernel)) ggX1_agrees_X1_agreesWith
theorem dX1_agrees_0 : decode cX1_agrees 0 = .ok (.iconst 0, 1) := by decide +kernel
theorem dX1_agrees_1 : decode cX1_agrees 1 = .ok (.istore_n 2, 1) := by decide +kernel
theorem dX1_agrees_2 : decode cX1_agrees 2 = .ok (.iload_n 2, 1) := by decide +kernel
theorem dX1_agrees_3 : decode cX1_agrees 3 = .ok (.aload_n 1, 1) := by decide +kernel
theorem dX1_agrees_4 : decode cX1_agrees 4 = .ok (.getfield 50, 3) := by decide +kernel
theorem dX1_agrees_7 : decode cX1_agrees 7 = .ok (.if_icmp .ge 20, 3) := by decide +kernel
theorem dX1_agrees_10 : decode cX1_agrees 10 = .ok (.aload_n 0, 1) := by decide +kernel
theorem dX1_agrees_11 : decode cX1_agrees 11 = .ok (.aload_n 1, 1) := by decide +kernel
theorem dX1_agrees_12 : decode cX1_agrees 12 = .ok (.iload_n 2, 1) := by decide +kernel
theorem dX1_agrees_13 : decode cX1_agrees 13 = .ok (.invokevirtual 53, 3) := by decide +kernel
theorem dX1_agrees_16 : decode cX1_agrees 16 = .ok (.ifCond .ne 5, 3) := by decide +kernel
theorem dX1_agrees_19 : decode cX1_agrees 19 = .ok (.iconst 0, 1) := by decide +kernel
theorem dX1_agrees_20 : decode cX1_agrees 20 = .ok (.ireturn, 1) := by decide +kernel
theorem dX1_agrees_21 : decode cX1_agrees 21 = .ok (.iinc 2 1, 3) := by decide +kernel
theorem dX1_agrees_24 : decode cX1_agrees 24 = .ok (.goto (-22), 3) := by decide +kernel
theorem dX1_agrees_27 : decode cX1_agrees 27 = .ok (.iconst 1, 1) := by decide +kernel
theorem dX1_agrees_28 : decode cX1_agrees 28 = .ok (.ireturn, 1) := by decide +kernel
set_option maxRecDepth 20000 in
theorem ggX1_startsAt_X1_walk : GoodIn wsX1_startsAt wsX1_walk := goodIn_r _ [7, 8, 9, 10, 11, 12, 13, 14, 15, 16, 17, 18, 19, 20, 21, 22, 23, 24, 25, 26, 27, 28, 29, 30, 31, 32, 33, 34, 47, 48, 49, 50, 51, 52, 53, 54, 55, 56, 57, 58, 59, 60, 61, 62, 63] (by decide +kernel) (by decide +kernel)
set_option maxRecDepth 20000 in
theorem gX1_startsAt_X1_walk : GoodIn wsX1_startsAt (wsV RX1 57 RX1 yX1_walk wsX1_walk) := goodIn_app (goodIn_of _ (by decide +kernel)) ggX1_startsAt_X1_walk
set_option maxRecDepth 20000 in
theorem ggX1_startsAt_X1_agrees : GoodIn wsX1_startsAt wsX1_agrees := goodIn_r _ [38, 39, 40, 41, 42, 6, 43, 8, 44, 45, 46, 50, 51, 52, 53, 54, 55, 56, 57, 58, 59, 60, 61, 62, 63, 47, 48, 49] (by decide +kernel) (by decide +kernel)
set_option maxRecDepth 20000 in
theorem gX1_startsAt_X1_agrees : GoodIn wsX1_startsAt (wsV RX1 61 RX1 yX1_agrees wsX1_agrees) := goodIn_app (goodIn_of _ (by decide +kernel)) ggX1_startsAt_X1_agrees
theorem dX1_startsAt_0 : decode cX1_startsAt 0 = .ok (.aload_n 0, 1) := by decide +kernel
theorem dX1_startsAt_1 : decode cX1_startsAt 1 = .ok (.getfield 19, 3) := by decide +kernel
theorem dX1_startsAt_4 : decode cX1_startsAt 4 = .ok (.iload_n 2, 1) := by decide +kernel
theorem dX1_startsAt_5 : decode cX1_startsAt 5 = .ok (.ishr, 1) := by decide +kernel
theorem dX1_startsAt_6 : decode cX1_startsAt 6 = .ok (.iconst 1, 1) := by decide +kernel
theorem dX1_startsAt_7 : decode cX1_startsAt 7 = .ok (.iand, 1) := by decide +kernel
theorem dX1_startsAt_8 : decode cX1_startsAt 8 = .ok (.iconst 1, 1) := by decide +kernel
theorem dX1_startsAt_9 : decode cX1_startsAt 9 = .ok (.if_icmp .ne 10, 3) := by decide +kernel
theorem dX1_startsAt_12 : decode cX1_startsAt 12 = .ok (.aload_n 0, 1) := by decide +kernel
theorem dX1_startsAt_13 : decode cX1_startsAt 13 = .ok (.getfield 15, 3) := by decide +kernel
theorem dX1_startsAt_16 : decode cX1_startsAt 16 = .ok (.iload_n 2, 1) := by decide +kernel
theorem dX1_startsAt_17 : decode cX1_startsAt 17 = .ok (.iaload, 1) := by decide +kernel
theorem dX1_startsAt_18 : decode cX1_startsAt 18 = .ok (.ireturn, 1) := by decide +kernel
theorem dX1_startsAt_19 : decode cX1_startsAt 19 = .ok (.iconst 0, 1) := by decide +kernel
theorem dX1_startsAt_20 : decode cX1_startsAt 20 = .ok (.istore_n 3, 1) := by decide +kernel
theorem dX1_startsAt_21 : decode cX1_startsAt 21 = .ok (.iconst 0, 1) := by decide +kernel
theorem dX1_startsAt_22 : decode cX1_startsAt 22 = .ok (.istore 4, 2) := by decide +kernel
theorem dX1_startsAt_24 : decode cX1_startsAt 24 = .ok (.iload 4, 2) := by decide +kernel
theorem dX1_startsAt_26 : decode cX1_startsAt 26 = .ok (.bipush 30, 2) := by decide +kernel
theorem dX1_startsAt_28 : decode cX1_startsAt 28 = .ok (.if_icmp .gt 32, 3) := by decide +kernel
theorem dX1_startsAt_31 : decode cX1_startsAt 31 = .ok (.aload_n 0, 1) := by decide +kernel
theorem dX1_startsAt_32 : decode cX1_startsAt 32 = .ok (.aload_n 1, 1) := by decide +kernel
theorem dX1_startsAt_33 : decode cX1_startsAt 33 = .ok (.iload_n 2, 1) := by decide +kernel
theorem dX1_startsAt_34 : decode cX1_startsAt 34 = .ok (.iload 4, 2) := by decide +kernel
theorem dX1_startsAt_36 : decode cX1_startsAt 36 = .ok (.invokevirtual 57, 3) := by decide +kernel
theorem dX1_startsAt_39 : decode cX1_startsAt 39 = .ok (.aload_n 0, 1) := by decide +kernel
theorem dX1_startsAt_40 : decode cX1_startsAt 40 = .ok (.aload_n 1, 1) := by decide +kernel
theorem dX1_startsAt_41 : decode cX1_startsAt 41 = .ok (.invokevirtual 61, 3) := by decide +kernel
theorem dX1_startsAt_44 : decode cX1_startsAt 44 = .ok (.ifCond .eq 10, 3) := by decide +kernel
theorem dX1_startsAt_47 : decode cX1_startsAt 47 = .ok (.iload_n 3, 1) := by decide +kernel
theorem dX1_startsAt_48 : decode cX1_startsAt 48 = .ok (.iconst 1, 1) := by decide +kernel
theorem dX1_startsAt_49 : decode cX1_startsAt 49 = .ok (.iload 4, 2) := by decide +kernel
theorem dX1_startsAt_51 : decode cX1_startsAt 51 = .ok (.ishl, 1) := by decide +kernel
theorem dX1_startsAt_52 : decode cX1_startsAt 52 = .ok (.ior, 1) := by decide +kernel
theorem dX1_startsAt_53 : decode cX1_startsAt 53 = .ok (.istore_n 3, 1) := by decide +kernel
theorem dX1_startsAt_54 : decode cX1_startsAt 54 = .ok (.iinc 4 1, 3) := by decide +kernel
theorem dX1_startsAt_57 : decode cX1_startsAt 57 = .ok (.goto (-33), 3) := by decide +kernel
theorem dX1_startsAt_60 : decode cX1_startsAt 60 = .ok (.aload_n 0, 1) := by decide +kernel
theorem dX1_startsAt_61 : decode cX1_startsAt 61 = .ok (.getfield 15, 3) := by decide +kernel
theorem dX1_startsAt_64 : decode cX1_startsAt 64 = .ok (.iload_n 2, 1) := by decide +kernel
theorem dX1_startsAt_65 : decode cX1_startsAt 65 = .ok (.iload_n 3, 1) := by decide +kernel
theorem dX1_startsAt_66 : decode cX1_startsAt 66 = .ok (.iastore, 1) := by decide +kernel
theorem dX1_startsAt_67 : decode cX1_startsAt 67 = .ok (.aload_n 0, 1) := by decide +kernel
theorem dX1_startsAt_68 : decode cX1_startsAt 68 = .ok (.dup, 1) := by decide +kernel
theorem dX1_startsAt_69 : decode cX1_startsAt 69 = .ok (.getfield 19, 3) := by decide +kernel
theorem dX1_startsAt_72 : decode cX1_startsAt 72 = .ok (.iconst 1, 1) := by decide +kernel
theorem dX1_startsAt_73 : decode cX1_startsAt 73 = .ok (.iload_n 2, 1) := by decide +kernel
theorem dX1_startsAt_74 : decode cX1_startsAt 74 = .ok (.ishl, 1) := by decide +kernel
theorem dX1_startsAt_75 : decode cX1_startsAt 75 = .ok (.ior, 1) := by decide +kernel
theorem dX1_startsAt_76 : decode cX1_startsAt 76 = .ok (.putfield 19, 3) := by decide +kernel
theorem dX1_startsAt_79 : decode cX1_startsAt 79 = .ok (.iload_n 3, 1) := by decide +kernel
theorem dX1_startsAt_80 : decode cX1_startsAt 80 = .ok (.ireturn, 1) := by decide +kernel
set_option maxRecDepth 20000 in
theorem ggX1_suspicious_X1_startsAt : GoodIn wsX1_suspicious wsX1_startsAt := goodIn_r _ [6, 7, 8, 9, 10, 11, 5, 12, 13, 14, 15, 16, 17, 18, 19, 20, 21, 22, 23, 24, 25, 26, 27, 28, 29, 30, 31, 32, 33, 34, 35, 36, 37, 38, 39, 40, 41, 42, 43, 44, 45, 46, 47, 48, 49, 50, 51, 66, 67, 68, 52, 53, 54, 55, 56, 57, 58, 59, 60, 61, 62, 63, 64, 65] (by decide +kernel) (by decide +kernel)
set_option maxRecDepth 20000 in
theorem gX1_suspicious_X1_startsAt : GoodIn wsX1_suspicious (wsV RX1 68 RX1 yX1_startsAt wsX1_startsAt) := goodIn_app (goodIn_of _ (by decide +kernel)) ggX1_suspicious_X1_startsAt
theorem dX1_suspicious_0 : decode cX1_suspicious 0 = .ok (.iconst 0, 1) := by decide +kernel
theorem dX1_suspicious_1 : decode cX1_suspicious 1 = .ok (.istore_n 2, 1) := by decide +kernel
theorem dX1_suspicious_2 : decode cX1_suspicious 2 = .ok (.iconst 0, 1) := by decide +kernel
theorem dX1_suspicious_3 : decode cX1_suspicious 3 = .ok (.istore_n 3, 1) := by decide +kernel
theorem dX1_suspicious_4 : decode cX1_suspicious 4 = .ok (.iload_n 3, 1) := by decide +kernel
theorem dX1_suspicious_5 : decode cX1_suspicious 5 = .ok (.aload_n 1, 1) := by decide +kernel
theorem dX1_suspicious_6 : decode cX1_suspicious 6 = .ok (.getfield 65, 3) := by decide +kernel
theorem dX1_suspicious_9 : decode cX1_suspicious 9 = .ok (.if_icmp .ge 24, 3) := by decide +kernel
theorem dX1_suspicious_12 : decode cX1_suspicious 12 = .ok (.aload_n 0, 1) := by decide +kernel
theorem dX1_suspicious_13 : decode cX1_suspicious 13 = .ok (.aload_n 1, 1) := by decide +kernel
theorem dX1_suspicious_14 : decode cX1_suspicious 14 = .ok (.iload_n 3, 1) := by decide +kernel
theorem dX1_suspicious_15 : decode cX1_suspicious 15 = .ok (.invokevirtual 68, 3) := by decide +kernel
theorem dX1_suspicious_18 : decode cX1_suspicious 18 = .ok (.ifCond .eq 9, 3) := by decide +kernel
theorem dX1_suspicious_21 : decode cX1_suspicious 21 = .ok (.iload_n 2, 1) := by decide +kernel
theorem dX1_suspicious_22 : decode cX1_suspicious 22 = .ok (.iconst 1, 1) := by decide +kernel
theorem dX1_suspicious_23 : decode cX1_suspicious 23 = .ok (.iload_n 3, 1) := by decide +kernel
theorem dX1_suspicious_24 : decode cX1_suspicious 24 = .ok (.ishl, 1) := by decide +kernel
theorem dX1_suspicious_25 : decode cX1_suspicious 25 = .ok (.ior, 1) := by decide +kernel
theorem dX1_suspicious_26 : decode cX1_suspicious 26 = .ok (.istore_n 2, 1) := by decide +kernel
theorem dX1_suspicious_27 : decode cX1_suspicious 27 = .ok (.iinc 3 1, 3) := by decide +kernel
theorem dX1_suspicious_30 : decode cX1_suspicious 30 = .ok (.goto (-26), 3) := by decide +kernel
theorem dX1_suspicious_33 : decode cX1_suspicious 33 = .ok (.iload_n 2, 1) := by decide +kernel
theorem dX1_suspicious_34 : decode cX1_suspicious 34 = .ok (.ireturn, 1) := by decide +kernel
theorem dX1_agreesWith_0 : decode cX1_agreesWith 0 = .ok (.aload_n 0, 1) := by decide +kernel
theorem dX1_agreesWith_1 : decode cX1_agreesWith 1 = .ok (.getfield 9, 3) := by decide +kernel
theorem dX1_agreesWith_4 : decode cX1_agreesWith 4 = .ok (.aload_n 1, 1) := by decide +kernel
theorem dX1_agreesWith_5 : decode cX1_agreesWith 5 = .ok (.getfield 72, 3) := by decide +kernel
theorem dX1_agreesWith_8 : decode cX1_agreesWith 8 = .ok (.iload_n 2, 1) := by decide +kernel
theorem dX1_agreesWith_9 : decode cX1_agreesWith 9 = .ok (.iaload, 1) := by decide +kernel
theorem dX1_agreesWith_10 : decode cX1_agreesWith 10 = .ok (.laload, 1) := by decide +kernel
theorem dX1_agreesWith_11 : decode cX1_agreesWith 11 = .ok (.lstore_n 3, 1) := by decide +kernel
theorem dX1_agreesWith_12 : decode cX1_agreesWith 12 = .ok (.aload_n 1, 1) := by decide +kernel
theorem dX1_agreesWith_13 : decode cX1_agreesWith 13 = .ok (.getfield 75, 3) := by decide +kernel
theorem dX1_agreesWith_16 : decode cX1_agreesWith 16 = .ok (.iload_n 2, 1) := by decide +kernel
theorem dX1_agreesWith_17 : decode cX1_agreesWith 17 = .ok (.iaload, 1) := by decide +kernel
theorem dX1_agreesWith_18 : decode cX1_agreesWith 18 = .ok (.istore 5, 2) := by decide +kernel
theorem dX1_agreesWith_20 : decode cX1_agreesWith 20 = .ok (.aload_n 1, 1) := by decide +kernel
theorem dX1_agreesWith_21 : decode cX1_agreesWith 21 = .ok (.getfield 78, 3) := by decide +kernel
theorem dX1_agreesWith_24 : decode cX1_agreesWith 24 = .ok (.iload_n 2, 1) := by decide +kernel
theorem dX1_agreesWith_25 : decode cX1_agreesWith 25 = .ok (.iaload, 1) := by decide +kernel
theorem dX1_agreesWith_26 : decode cX1_agreesWith 26 = .ok (.iconst 1, 1) := by decide +kernel
theorem dX1_agreesWith_27 : decode cX1_agreesWith 27 = .ok (.if_icmp .ne 20, 3) := by decide +kernel
theorem dX1_agreesWith_30 : decode cX1_agreesWith 30 = .ok (.lload_n 3, 1) := by decide +kernel
theorem dX1_agreesWith_31 : decode cX1_agreesWith 31 = .ok (.iload 5, 2) := by decide +kernel
theorem dX1_agreesWith_33 : decode cX1_agreesWith 33 = .ok (.lushr, 1) := by decide +kernel
theorem dX1_agreesWith_34 : decode cX1_agreesWith 34 = .ok (.lconst 1, 1) := by decide +kernel
theorem dX1_agreesWith_35 : decode cX1_agreesWith 35 = .ok (.land, 1) := by decide +kernel
theorem dX1_agreesWith_36 : decode cX1_agreesWith 36 = .ok (.lconst 1, 1) := by decide +kernel
theorem dX1_agreesWith_37 : decode cX1_agreesWith 37 = .ok (.lcmp, 1) := by decide +kernel
theorem dX1_agreesWith_38 : decode cX1_agreesWith 38 = .ok (.ifCond .ne 7, 3) := by decide +kernel
theorem dX1_agreesWith_41 : decode cX1_agreesWith 41 = .ok (.iconst 1, 1) := by decide +kernel
theorem dX1_agreesWith_42 : decode cX1_agreesWith 42 = .ok (.goto 4, 3) := by decide +kernel
theorem dX1_agreesWith_45 : decode cX1_agreesWith 45 = .ok (.iconst 0, 1) := by decide +kernel
theorem dX1_agreesWith_46 : decode cX1_agreesWith 46 = .ok (.ireturn, 1) := by decide +kernel
theorem dX1_agreesWith_47 : decode cX1_agreesWith 47 = .ok (.lload_n 3, 1) := by decide +kernel
theorem dX1_agreesWith_48 : decode cX1_agreesWith 48 = .ok (.lconst 0, 1) := by decide +kernel
theorem dX1_agreesWith_49 : decode cX1_agreesWith 49 = .ok (.lcmp, 1) := by decide +kernel
theorem dX1_agreesWith_50 : decode cX1_agreesWith 50 = .ok (.ifCond .eq 14, 3) := by decide +kernel
theorem dX1_agreesWith_53 : decode cX1_agreesWith 53 = .ok (.lload_n 3, 1) := by decide +kernel
theorem dX1_agreesWith_54 : decode cX1_agreesWith 54 = .ok (.iload 5, 2) := by decide +kernel
theorem dX1_agreesWith_56 : decode cX1_agreesWith 56 = .ok (.iconst 1, 1) := by decide +kernel
theorem dX1_agreesWith_57 : decode cX1_agreesWith 57 = .ok (.iadd, 1) := by decide +kernel
theorem dX1_agreesWith_58 : decode cX1_agreesWith 58 = .ok (.lushr, 1) := by decide +kernel
theorem dX1_agreesWith_59 : decode cX1_agreesWith 59 = .ok (.lconst 0, 1) := by decide +kernel
theorem dX1_agreesWith_60 : decode cX1_agreesWith 60 = .ok (.lcmp, 1) := by decide +kernel
theorem dX1_agreesWith_61 : decode cX1_agreesWith 61 = .ok (.ifCond .eq 7, 3) := by decide +kernel
theorem dX1_agreesWith_64 : decode cX1_agreesWith 64 = .ok (.iconst 1, 1) := by decide +kernel
theorem dX1_agreesWith_65 : decode cX1_agreesWith 65 = .ok (.goto 4, 3) := by decide +kernel
theorem dX1_agreesWith_68 : decode cX1_agreesWith 68 = .ok (.iconst 0, 1) := by decide +kernel
theorem dX1_agreesWith_69 : decode cX1_agreesWith 69 = .ok (.ireturn, 1) := by decide +kernel
theorem dX2_init_0 : decode cX2_init 0 = .ok (.aload_n 0, 1) := by decide +kernel
theorem dX2_init_1 : decode cX2_init 1 = .ok (.invokespecial 3, 3) := by decide +kernel
theorem dX2_init_4 : decode cX2_init 4 = .ok (.aload_n 0, 1) := by decide +kernel
theorem dX2_init_5 : decode cX2_init 5 = .ok (.bipush 40, 2) := by decide +kernel
theorem dX2_init_7 : decode cX2_init 7 = .ok (.newarray .int, 2) := by decide +kernel
theorem dX2_init_9 : decode cX2_init 9 = .ok (.putfield 9, 3) := by decide +kernel
theorem dX2_init_12 : decode cX2_init 12 = .ok (.aload_n 0, 1) := by decide +kernel
theorem dX2_init_13 : decode cX2_init 13 = .ok (.sipush 160, 3) := by decide +kernel
theorem dX2_init_16 : decode cX2_init 16 = .ok (.newarray .int, 2) := by decide +kernel
theorem dX2_init_18 : decode cX2_init 18 = .ok (.putfield 15, 3) := by decide +kernel
theorem dX2_init_21 : decode cX2_init 21 = .ok (.return_, 1) := by decide +kernel
set_option maxRecDepth 20000 in
theorem ggX2_parse_X2_takes : GoodIn wsX2_parse wsX2_takes := goodIn_r _ [7, 8, 2, 9, 10, 11, 6, 12, 1, 13, 14, 15, 16, 17, 18, 19, 20, 21, 22, 23, 24, 25, 26, 27, 28, 29, 30, 31, 32, 33, 34, 35] (by decide +kernel) (by decide +kernel)
set_option maxRecDepth 20000 in
theorem gX2_parse_X2_takes : GoodIn wsX2_parse (wsV RX2 26 RX2 yX2_takes wsX2_takes) := goodIn_app (goodIn_of _ (by decide +kernel)) ggX2_parse_X2_takes
theorem dX2_parse_0 : decode cX2_parse 0 = .ok (.aload_n 0, 1) := by decide +kernel
theorem dX2_parse_1 : decode cX2_parse 1 = .ok (.iconst 0, 1) := by decide +kernel
theorem dX2_parse_2 : decode cX2_parse 2 = .ok (.putfield 18, 3) := by decide +kernel
theorem dX2_parse_5 : decode cX2_parse 5 = .ok (.aload_n 0, 1) := by decide +kernel
theorem dX2_parse_6 : decode cX2_parse 6 = .ok (.iconst 0, 1) := by decide +kernel
theorem dX2_parse_7 : decode cX2_parse 7 = .ok (.putfield 22, 3) := by decide +kernel
theorem dX2_parse_10 : decode cX2_parse 10 = .ok (.iconst 0, 1) := by decide +kernel
theorem dX2_parse_11 : decode cX2_parse 11 = .ok (.istore_n 3, 1) := by decide +kernel
theorem dX2_parse_12 : decode cX2_parse 12 = .ok (.iload_n 3, 1) := by decide +kernel
theorem dX2_parse_13 : decode cX2_parse 13 = .ok (.iload_n 2, 1) := by decide +kernel
theorem dX2_parse_14 : decode cX2_parse 14 = .ok (.if_icmp .ge 21, 3) := by decide +kernel
theorem dX2_parse_17 : decode cX2_parse 17 = .ok (.aload_n 0, 1) := by decide +kernel
theorem dX2_parse_18 : decode cX2_parse 18 = .ok (.aload_n 1, 1) := by decide +kernel
theorem dX2_parse_19 : decode cX2_parse 19 = .ok (.iload_n 3, 1) := by decide +kernel
theorem dX2_parse_20 : decode cX2_parse 20 = .ok (.baload, 1) := by decide +kernel
theorem dX2_parse_21 : decode cX2_parse 21 = .ok (.invokevirtual 26, 3) := by decide +kernel
theorem dX2_parse_24 : decode cX2_parse 24 = .ok (.ifCond .ne 5, 3) := by decide +kernel
theorem dX2_parse_27 : decode cX2_parse 27 = .ok (.iload_n 3, 1) := by decide +kernel
theorem dX2_parse_28 : decode cX2_parse 28 = .ok (.ireturn, 1) := by decide +kernel
theorem dX2_parse_29 : decode cX2_parse 29 = .ok (.iinc 3 1, 3) := by decide +kernel
theorem dX2_parse_32 : decode cX2_parse 32 = .ok (.goto (-20), 3) := by decide +kernel
theorem dX2_parse_35 : decode cX2_parse 35 = .ok (.aload_n 0, 1) := by decide +kernel
theorem dX2_parse_36 : decode cX2_parse 36 = .ok (.getfield 22, 3) := by decide +kernel
theorem dX2_parse_39 : decode cX2_parse 39 = .ok (.ifCond .ne 10, 3) := by decide +kernel
theorem dX2_parse_42 : decode cX2_parse 42 = .ok (.aload_n 0, 1) := by decide +kernel
theorem dX2_parse_43 : decode cX2_parse 43 = .ok (.getfield 18, 3) := by decide +kernel
theorem dX2_parse_46 : decode cX2_parse 46 = .ok (.ifCond .ne 7, 3) := by decide +kernel
theorem dX2_parse_49 : decode cX2_parse 49 = .ok (.iload_n 2, 1) := by decide +kernel
theorem dX2_parse_50 : decode cX2_parse 50 = .ok (.goto 4, 3) := by decide +kernel
theorem dX2_parse_53 : decode cX2_parse 53 = .ok (.iconst (-1), 1) := by decide +kernel
theorem dX2_parse_54 : decode cX2_parse 54 = .ok (.ireturn, 1) := by decide +kernel
set_option maxRecDepth 20000 in
theorem ggX2_obey_X0_addShaft : GoodIn wsX2_obey wsX0_addShaft := goodIn_r _ [7, 8, 9, 10, 11, 12, 6, 13, 14, 15, 16, 17, 18, 19, 20, 21, 22, 23, 24, 25, 26, 27, 28, 29, 30, 31, 32, 33, 34, 35, 36, 37, 38, 39, 40, 41, 42, 43, 80, 81, 82, 83, 84, 85, 86, 87, 88, 89, 90, 91, 92, 93] (by decide +kernel) (by decide +kernel)
set_option maxRecDepth 20000 in
theorem gX2_obey_X0_addShaft : GoodIn wsX2_obey (wsV RX2 30 RX0 yX0_addShaft wsX0_addShaft) := goodIn_app (goodIn_of _ (by decide +kernel)) ggX2_obey_X0_addShaft
set_option maxRecDepth 20000 in
theorem ggX2_obey_X0_addPipe : GoodIn wsX2_obey wsX0_addPipe := goodIn_r _ [47, 29, 30, 31, 48, 49, 50, 51, 52, 6, 53, 8, 14, 15, 16, 54, 55, 56, 57, 28, 20, 21, 22, 23, 24, 25, 26, 27, 32, 33, 34, 35, 36, 37, 38, 39, 40, 41, 42, 43, 80, 81, 82, 83, 84, 85, 86, 87, 88, 89, 90, 91, 92, 93] (by decide +kernel) (by decide +kernel)
set_option maxRecDepth 20000 in
theorem gX2_obey_X0_addPipe : GoodIn wsX2_obey (wsV RX2 36 RX0 yX0_addPipe wsX0_addPipe) := goodIn_app (goodIn_of _ (by decide +kernel)) ggX2_obey_X0_addPipe
set_option maxRecDepth 20000 in
theorem ggX2_obey_X0_addSight : GoodIn wsX2_obey wsX0_addSight := goodIn_r _ [61, 62, 63, 64, 65, 14, 15, 16, 50, 51, 52, 6, 53, 8, 80, 81, 82, 83, 84, 85, 86, 87, 88, 89, 90, 91, 92, 93] (by decide +kernel) (by decide +kernel)
set_option maxRecDepth 20000 in
theorem gX2_obey_X0_addSight : GoodIn wsX2_obey (wsV RX2 40 RX0 yX0_addSight wsX0_addSight) := goodIn_app (goodIn_of _ (by decide +kernel)) ggX2_obey_X0_addSight
set_option maxRecDepth 20000 in
theorem ggX2_obey_X0_dropPipe : GoodIn wsX2_obey wsX0_dropPipe := goodIn_r _ [69, 29, 30, 31, 48, 49, 70, 71, 72, 6, 73, 14, 15, 16, 20, 21, 22, 23, 24, 25, 26, 27, 8, 28, 32, 33, 34, 35, 36, 37, 38, 39, 40, 41, 42, 43, 80, 81, 82, 83, 84, 85, 86, 87, 88, 89, 90, 91, 92, 93] (by decide +kernel) (by decide +kernel)
set_option maxRecDepth 20000 in
theorem gX2_obey_X0_dropPipe : GoodIn wsX2_obey (wsV RX2 44 RX0 yX0_dropPipe wsX0_dropPipe) := goodIn_app (goodIn_of _ (by decide +kernel)) ggX2_obey_X0_dropPipe
theorem dX2_obey_0 : decode cX2_obey 0 = .ok (.iload_n 1, 1) := by decide +kernel
theorem dX2_obey_1 : decode cX2_obey 1 = .ok (.iconst 4, 1) := by decide +kernel
theorem dX2_obey_2 : decode cX2_obey 2 = .ok (.imul, 1) := by decide +kernel
theorem dX2_obey_3 : decode cX2_obey 3 = .ok (.istore_n 3, 1) := by decide +kernel
theorem dX2_obey_4 : decode cX2_obey 4 = .ok (.aload_n 0, 1) := by decide +kernel
theorem dX2_obey_5 : decode cX2_obey 5 = .ok (.getfield 15, 3) := by decide +kernel
theorem dX2_obey_8 : decode cX2_obey 8 = .ok (.iload_n 3, 1) := by decide +kernel
theorem dX2_obey_9 : decode cX2_obey 9 = .ok (.iaload, 1) := by decide +kernel
theorem dX2_obey_10 : decode cX2_obey 10 = .ok (.istore 4, 2) := by decide +kernel
theorem dX2_obey_12 : decode cX2_obey 12 = .ok (.aload_n 0, 1) := by decide +kernel
theorem dX2_obey_13 : decode cX2_obey 13 = .ok (.getfield 15, 3) := by decide +kernel
theorem dX2_obey_16 : decode cX2_obey 16 = .ok (.iload_n 3, 1) := by decide +kernel
theorem dX2_obey_17 : decode cX2_obey 17 = .ok (.iconst 1, 1) := by decide +kernel
theorem dX2_obey_18 : decode cX2_obey 18 = .ok (.iadd, 1) := by decide +kernel
theorem dX2_obey_19 : decode cX2_obey 19 = .ok (.iaload, 1) := by decide +kernel
theorem dX2_obey_20 : decode cX2_obey 20 = .ok (.istore 5, 2) := by decide +kernel
theorem dX2_obey_22 : decode cX2_obey 22 = .ok (.aload_n 0, 1) := by decide +kernel
theorem dX2_obey_23 : decode cX2_obey 23 = .ok (.getfield 9, 3) := by decide +kernel
theorem dX2_obey_26 : decode cX2_obey 26 = .ok (.iload_n 1, 1) := by decide +kernel
theorem dX2_obey_27 : decode cX2_obey 27 = .ok (.iaload, 1) := by decide +kernel
theorem dX2_obey_28 : decode cX2_obey 28 = .ok (.lookupswitch 113 #[(99, 96), (101, 86), (112, 61), (115, 52), (120, 106)], 52) := by decide +kernel
theorem dX2_obey_80 : decode cX2_obey 80 = .ok (.aload_n 2, 1) := by decide +kernel
theorem dX2_obey_81 : decode cX2_obey 81 = .ok (.iload 4, 2) := by decide +kernel
theorem dX2_obey_83 : decode cX2_obey 83 = .ok (.iload 5, 2) := by decide +kernel
theorem dX2_obey_85 : decode cX2_obey 85 = .ok (.invokevirtual 30, 3) := by decide +kernel
theorem dX2_obey_88 : decode cX2_obey 88 = .ok (.ireturn, 1) := by decide +kernel
theorem dX2_obey_89 : decode cX2_obey 89 = .ok (.aload_n 2, 1) := by decide +kernel
theorem dX2_obey_90 : decode cX2_obey 90 = .ok (.iload 4, 2) := by decide +kernel
theorem dX2_obey_92 : decode cX2_obey 92 = .ok (.iload 5, 2) := by decide +kernel
theorem dX2_obey_94 : decode cX2_obey 94 = .ok (.aload_n 0, 1) := by decide +kernel
theorem dX2_obey_95 : decode cX2_obey 95 = .ok (.getfield 15, 3) := by decide +kernel
theorem dX2_obey_98 : decode cX2_obey 98 = .ok (.iload_n 3, 1) := by decide +kernel
theorem dX2_obey_99 : decode cX2_obey 99 = .ok (.iconst 2, 1) := by decide +kernel
theorem dX2_obey_100 : decode cX2_obey 100 = .ok (.iadd, 1) := by decide +kernel
theorem dX2_obey_101 : decode cX2_obey 101 = .ok (.iaload, 1) := by decide +kernel
theorem dX2_obey_102 : decode cX2_obey 102 = .ok (.aload_n 0, 1) := by decide +kernel
theorem dX2_obey_103 : decode cX2_obey 103 = .ok (.getfield 15, 3) := by decide +kernel
theorem dX2_obey_106 : decode cX2_obey 106 = .ok (.iload_n 3, 1) := by decide +kernel
theorem dX2_obey_107 : decode cX2_obey 107 = .ok (.iconst 3, 1) := by decide +kernel
theorem dX2_obey_108 : decode cX2_obey 108 = .ok (.iadd, 1) := by decide +kernel
theorem dX2_obey_109 : decode cX2_obey 109 = .ok (.iaload, 1) := by decide +kernel
theorem dX2_obey_110 : decode cX2_obey 110 = .ok (.invokevirtual 36, 3) := by decide +kernel
theorem dX2_obey_113 : decode cX2_obey 113 = .ok (.ireturn, 1) := by decide +kernel
theorem dX2_obey_114 : decode cX2_obey 114 = .ok (.aload_n 2, 1) := by decide +kernel
theorem dX2_obey_115 : decode cX2_obey 115 = .ok (.iconst 1, 1) := by decide +kernel
theorem dX2_obey_116 : decode cX2_obey 116 = .ok (.iload 4, 2) := by decide +kernel
theorem dX2_obey_118 : decode cX2_obey 118 = .ok (.iload 5, 2) := by decide +kernel
theorem dX2_obey_120 : decode cX2_obey 120 = .ok (.invokevirtual 40, 3) := by decide +kernel
theorem dX2_obey_123 : decode cX2_obey 123 = .ok (.ireturn, 1) := by decide +kernel
theorem dX2_obey_124 : decode cX2_obey 124 = .ok (.aload_n 2, 1) := by decide +kernel
theorem dX2_obey_125 : decode cX2_obey 125 = .ok (.iconst 0, 1) := by decide +kernel
theorem dX2_obey_126 : decode cX2_obey 126 = .ok (.iload 4, 2) := by decide +kernel
theorem dX2_obey_128 : decode cX2_obey 128 = .ok (.iload 5, 2) := by decide +kernel
theorem dX2_obey_130 : decode cX2_obey 130 = .ok (.invokevirtual 40, 3) := by decide +kernel
theorem dX2_obey_133 : decode cX2_obey 133 = .ok (.ireturn, 1) := by decide +kernel
theorem dX2_obey_134 : decode cX2_obey 134 = .ok (.aload_n 2, 1) := by decide +kernel
theorem dX2_obey_135 : decode cX2_obey 135 = .ok (.iload 4, 2) := by decide +kernel
theorem dX2_obey_137 : decode cX2_obey 137 = .ok (.invokevirtual 44, 3) := by decide +kernel
theorem dX2_obey_140 : decode cX2_obey 140 = .ok (.ireturn, 1) := by decide +kernel
theorem dX2_obey_141 : decode cX2_obey 141 = .ok (.bipush (-2), 2) := by decide +kernel
theorem dX2_obey_143 : decode cX2_obey 143 = .ok (.ireturn, 1) := by decide +kernel
set_option maxRecDepth 20000 in
theorem ggX2_takes_X2_opens : GoodIn wsX2_takes wsX2_opens := goodIn_r _ [7, 8, 9, 2, 10, 1, 11, 12, 6, 13, 26, 27, 28, 29, 30, 31] (by decide +kernel) (by decide +kernel)
set_option maxRecDepth 20000 in
theorem gX2_takes_X2_opens : GoodIn wsX2_takes (wsV RX2 51 RX2 yX2_opens wsX2_opens) := goodIn_app (goodIn_of _ (by decide +kernel)) ggX2_takes_X2_opens
set_option maxRecDepth 20000 in
theorem ggX2_takes_X2_closes : GoodIn wsX2_takes wsX2_closes := goodIn_r _ [17, 10, 9, 8, 2, 11, 12, 6, 13, 26, 27, 28, 29, 30, 31] (by decide +kernel) (by decide +kernel)
set_option maxRecDepth 20000 in
theorem gX2_takes_X2_closes : GoodIn wsX2_takes (wsV RX2 54 RX2 yX2_closes wsX2_closes) := goodIn_app (goodIn_of _ (by decide +kernel)) ggX2_takes_X2_closes
set_option maxRecDepth 20000 in
theorem ggX2_takes_X5_within : GoodIn wsX2_takes wsX5_within := goodIn_r _ [20] (by decide +kernel) (by decide +kernel)
set_option maxRecDepth 20000 in
theorem gX2_takes_X5_within_n58 : GoodIn wsX2_takes (wsX5_within) := ggX2_takes_X5_within
set_option maxRecDepth 20000 in
theorem ggX2_takes_X2_takesFigure : GoodIn wsX2_takes wsX2_takesFigure := goodIn_r _ [24, 1, 10, 9, 8, 25, 11, 12, 6, 13, 26, 27, 28, 29, 30, 31] (by decide +kernel) (by decide +kernel)
set_option maxRecDepth 20000 in
theorem gX2_takes_X2_takesFigure : GoodIn wsX2_takes (wsV RX2 62 RX2 yX2_takesFigure wsX2_takesFigure) := goodIn_app (goodIn_of _ (by decide +kernel)) ggX2_takes_X2_takesFigure
theorem dX2_takes_0 : decode cX2_takes 0 = .ok (.iload_n 1, 1) := by decide +kernel
theorem dX2_takes_1 : decode cX2_takes 1 = .ok (.bipush 32, 2) := by decide +kernel
theorem dX2_takes_3 : decode cX2_takes 3 = .ok (.if_icmp .ne 10, 3) := by decide +kernel
theorem dX2_takes_6 : decode cX2_takes 6 = .ok (.aload_n 0, 1) := by decide +kernel
theorem dX2_takes_7 : decode cX2_takes 7 = .ok (.iconst 0, 1) := by decide +kernel
theorem dX2_takes_8 : decode cX2_takes 8 = .ok (.putfield 48, 3) := by decide +kernel
theorem dX2_takes_11 : decode cX2_takes 11 = .ok (.iconst 1, 1) := by decide +kernel
theorem dX2_takes_12 : decode cX2_takes 12 = .ok (.ireturn, 1) := by decide +kernel
theorem dX2_takes_13 : decode cX2_takes 13 = .ok (.aload_n 0, 1) := by decide +kernel
theorem dX2_takes_14 : decode cX2_takes 14 = .ok (.getfield 22, 3) := by decide +kernel
theorem dX2_takes_17 : decode cX2_takes 17 = .ok (.ifCond .ne 9, 3) := by decide +kernel
theorem dX2_takes_20 : decode cX2_takes 20 = .ok (.aload_n 0, 1) := by decide +kernel
theorem dX2_takes_21 : decode cX2_takes 21 = .ok (.iload_n 1, 1) := by decide +kernel
theorem dX2_takes_22 : decode cX2_takes 22 = .ok (.invokevirtual 51, 3) := by decide +kernel
theorem dX2_takes_25 : decode cX2_takes 25 = .ok (.ireturn, 1) := by decide +kernel
theorem dX2_takes_26 : decode cX2_takes 26 = .ok (.iload_n 1, 1) := by decide +kernel
theorem dX2_takes_27 : decode cX2_takes 27 = .ok (.bipush 59, 2) := by decide +kernel
theorem dX2_takes_29 : decode cX2_takes 29 = .ok (.if_icmp .ne 8, 3) := by decide +kernel
theorem dX2_takes_32 : decode cX2_takes 32 = .ok (.aload_n 0, 1) := by decide +kernel
theorem dX2_takes_33 : decode cX2_takes 33 = .ok (.invokevirtual 54, 3) := by decide +kernel
theorem dX2_takes_36 : decode cX2_takes 36 = .ok (.ireturn, 1) := by decide +kernel
theorem dX2_takes_37 : decode cX2_takes 37 = .ok (.iload_n 1, 1) := by decide +kernel
theorem dX2_takes_38 : decode cX2_takes 38 = .ok (.bipush 48, 2) := by decide +kernel
theorem dX2_takes_40 : decode cX2_takes 40 = .ok (.bipush 57, 2) := by decide +kernel
theorem dX2_takes_42 : decode cX2_takes 42 = .ok (.invokestatic 58, 3) := by decide +kernel
theorem dX2_takes_45 : decode cX2_takes 45 = .ok (.ifCond .eq 18, 3) := by decide +kernel
theorem dX2_takes_48 : decode cX2_takes 48 = .ok (.aload_n 0, 1) := by decide +kernel
theorem dX2_takes_49 : decode cX2_takes 49 = .ok (.iload_n 1, 1) := by decide +kernel
theorem dX2_takes_50 : decode cX2_takes 50 = .ok (.bipush 48, 2) := by decide +kernel
theorem dX2_takes_52 : decode cX2_takes 52 = .ok (.isub, 1) := by decide +kernel
theorem dX2_takes_53 : decode cX2_takes 53 = .ok (.invokevirtual 62, 3) := by decide +kernel
theorem dX2_takes_56 : decode cX2_takes 56 = .ok (.ifCond .eq 7, 3) := by decide +kernel
theorem dX2_takes_59 : decode cX2_takes 59 = .ok (.iconst 1, 1) := by decide +kernel
theorem dX2_takes_60 : decode cX2_takes 60 = .ok (.goto 4, 3) := by decide +kernel
theorem dX2_takes_63 : decode cX2_takes 63 = .ok (.iconst 0, 1) := by decide +kernel
theorem dX2_takes_64 : decode cX2_takes 64 = .ok (.ireturn, 1) := by decide +kernel
set_option maxRecDepth 20000 in
theorem ggX2_opens_X2_numbersOf : GoodIn wsX2_opens wsX2_numbersOf := goodIn_r _ [9] (by decide +kernel) (by decide +kernel)
set_option maxRecDepth 20000 in
theorem gX2_opens_X2_numbersOf : GoodIn wsX2_opens (va_wsS RX2 65 yX2_numbersOf wsX2_numbersOf) := goodIn_app (goodIn_of _ (by decide +kernel)) ggX2_opens_X2_numbersOf
theorem dX2_opens_0 : decode cX2_opens 0 = .ok (.iload_n 1, 1) := by decide +kernel
theorem dX2_opens_1 : decode cX2_opens 1 = .ok (.invokestatic 65, 3) := by decide +kernel
theorem dX2_opens_4 : decode cX2_opens 4 = .ok (.ifCond .eq 12, 3) := by decide +kernel
theorem dX2_opens_7 : decode cX2_opens 7 = .ok (.aload_n 0, 1) := by decide +kernel
theorem dX2_opens_8 : decode cX2_opens 8 = .ok (.getfield 18, 3) := by decide +kernel
theorem dX2_opens_11 : decode cX2_opens 11 = .ok (.bipush 40, 2) := by decide +kernel
theorem dX2_opens_13 : decode cX2_opens 13 = .ok (.if_icmp .lt 5, 3) := by decide +kernel
theorem dX2_opens_16 : decode cX2_opens 16 = .ok (.iconst 0, 1) := by decide +kernel
theorem dX2_opens_17 : decode cX2_opens 17 = .ok (.ireturn, 1) := by decide +kernel
theorem dX2_opens_18 : decode cX2_opens 18 = .ok (.aload_n 0, 1) := by decide +kernel
theorem dX2_opens_19 : decode cX2_opens 19 = .ok (.getfield 9, 3) := by decide +kernel
theorem dX2_opens_22 : decode cX2_opens 22 = .ok (.aload_n 0, 1) := by decide +kernel
theorem dX2_opens_23 : decode cX2_opens 23 = .ok (.getfield 18, 3) := by decide +kernel
theorem dX2_opens_26 : decode cX2_opens 26 = .ok (.iload_n 1, 1) := by decide +kernel
theorem dX2_opens_27 : decode cX2_opens 27 = .ok (.iastore, 1) := by decide +kernel
theorem dX2_opens_28 : decode cX2_opens 28 = .ok (.aload_n 0, 1) := by decide +kernel
theorem dX2_opens_29 : decode cX2_opens 29 = .ok (.iconst 1, 1) := by decide +kernel
theorem dX2_opens_30 : decode cX2_opens 30 = .ok (.putfield 22, 3) := by decide +kernel
theorem dX2_opens_33 : decode cX2_opens 33 = .ok (.aload_n 0, 1) := by decide +kernel
theorem dX2_opens_34 : decode cX2_opens 34 = .ok (.iconst 0, 1) := by decide +kernel
theorem dX2_opens_35 : decode cX2_opens 35 = .ok (.putfield 68, 3) := by decide +kernel
theorem dX2_opens_38 : decode cX2_opens 38 = .ok (.aload_n 0, 1) := by decide +kernel
theorem dX2_opens_39 : decode cX2_opens 39 = .ok (.iconst 0, 1) := by decide +kernel
theorem dX2_opens_40 : decode cX2_opens 40 = .ok (.putfield 48, 3) := by decide +kernel
theorem dX2_opens_43 : decode cX2_opens 43 = .ok (.iconst 1, 1) := by decide +kernel
theorem dX2_opens_44 : decode cX2_opens 44 = .ok (.ireturn, 1) := by decide +kernel
set_option maxRecDepth 20000 in
theorem ggX2_closes_X2_numbersOf : GoodIn wsX2_closes wsX2_numbersOf := goodIn_r _ [8] (by decide +kernel) (by decide +kernel)
set_option maxRecDepth 20000 in
theorem gX2_closes_X2_numbersOf : GoodIn wsX2_closes (va_wsS RX2 65 yX2_numbersOf wsX2_numbersOf) := goodIn_app (goodIn_of _ (by decide +kernel)) ggX2_closes_X2_numbersOf
theorem dX2_closes_0 : decode cX2_closes 0 = .ok (.aload_n 0, 1) := by decide +kernel
theorem dX2_closes_1 : decode cX2_closes 1 = .ok (.getfield 68, 3) := by decide +kernel
theorem dX2_closes_4 : decode cX2_closes 4 = .ok (.aload_n 0, 1) := by decide +kernel
theorem dX2_closes_5 : decode cX2_closes 5 = .ok (.getfield 9, 3) := by decide +kernel
theorem dX2_closes_8 : decode cX2_closes 8 = .ok (.aload_n 0, 1) := by decide +kernel
theorem dX2_closes_9 : decode cX2_closes 9 = .ok (.getfield 18, 3) := by decide +kernel
theorem dX2_closes_12 : decode cX2_closes 12 = .ok (.iaload, 1) := by decide +kernel
theorem dX2_closes_13 : decode cX2_closes 13 = .ok (.invokestatic 65, 3) := by decide +kernel
theorem dX2_closes_16 : decode cX2_closes 16 = .ok (.if_icmp .ge 5, 3) := by decide +kernel
theorem dX2_closes_19 : decode cX2_closes 19 = .ok (.iconst 0, 1) := by decide +kernel
theorem dX2_closes_20 : decode cX2_closes 20 = .ok (.ireturn, 1) := by decide +kernel
theorem dX2_closes_21 : decode cX2_closes 21 = .ok (.aload_n 0, 1) := by decide +kernel
theorem dX2_closes_22 : decode cX2_closes 22 = .ok (.iconst 0, 1) := by decide +kernel
theorem dX2_closes_23 : decode cX2_closes 23 = .ok (.putfield 22, 3) := by decide +kernel
theorem dX2_closes_26 : decode cX2_closes 26 = .ok (.aload_n 0, 1) := by decide +kernel
theorem dX2_closes_27 : decode cX2_closes 27 = .ok (.dup, 1) := by decide +kernel
theorem dX2_closes_28 : decode cX2_closes 28 = .ok (.getfield 18, 3) := by decide +kernel
theorem dX2_closes_31 : decode cX2_closes 31 = .ok (.iconst 1, 1) := by decide +kernel
theorem dX2_closes_32 : decode cX2_closes 32 = .ok (.iadd, 1) := by decide +kernel
theorem dX2_closes_33 : decode cX2_closes 33 = .ok (.putfield 18, 3) := by decide +kernel
theorem dX2_closes_36 : decode cX2_closes 36 = .ok (.iconst 1, 1) := by decide +kernel
theorem dX2_closes_37 : decode cX2_closes 37 = .ok (.ireturn, 1) := by decide +kernel
set_option maxRecDepth 20000 in
theorem ggX2_takesFigure_X2_numbersOf : GoodIn wsX2_takesFigure wsX2_numbersOf := goodIn_r _ [9] (by decide +kernel) (by decide +kernel)
set_option maxRecDepth 20000 in
theorem gX2_takesFigure_X2_numbersOf : GoodIn wsX2_takesFigure (va_wsS RX2 65 yX2_numbersOf wsX2_numbersOf) := goodIn_app (goodIn_of _ (by decide +kernel)) ggX2_takesFigure_X2_numbersOf
theorem dX2_takesFigure_0 : decode cX2_takesFigure 0 = .ok (.aload_n 0, 1) := by decide +kernel
theorem dX2_takesFigure_1 : decode cX2_takesFigure 1 = .ok (.getfield 48, 3) := by decide +kernel
theorem dX2_takesFigure_4 : decode cX2_takesFigure 4 = .ok (.iconst 2, 1) := by decide +kernel
theorem dX2_takesFigure_5 : decode cX2_takesFigure 5 = .ok (.if_icmp .lt 5, 3) := by decide +kernel
theorem dX2_takesFigure_8 : decode cX2_takesFigure 8 = .ok (.iconst 0, 1) := by decide +kernel
theorem dX2_takesFigure_9 : decode cX2_takesFigure 9 = .ok (.ireturn, 1) := by decide +kernel
theorem dX2_takesFigure_10 : decode cX2_takesFigure 10 = .ok (.aload_n 0, 1) := by decide +kernel
theorem dX2_takesFigure_11 : decode cX2_takesFigure 11 = .ok (.getfield 48, 3) := by decide +kernel
theorem dX2_takesFigure_14 : decode cX2_takesFigure 14 = .ok (.ifCond .ne 51, 3) := by decide +kernel
theorem dX2_takesFigure_17 : decode cX2_takesFigure 17 = .ok (.aload_n 0, 1) := by decide +kernel
theorem dX2_takesFigure_18 : decode cX2_takesFigure 18 = .ok (.getfield 68, 3) := by decide +kernel
theorem dX2_takesFigure_21 : decode cX2_takesFigure 21 = .ok (.aload_n 0, 1) := by decide +kernel
theorem dX2_takesFigure_22 : decode cX2_takesFigure 22 = .ok (.getfield 9, 3) := by decide +kernel
theorem dX2_takesFigure_25 : decode cX2_takesFigure 25 = .ok (.aload_n 0, 1) := by decide +kernel
theorem dX2_takesFigure_26 : decode cX2_takesFigure 26 = .ok (.getfield 18, 3) := by decide +kernel
theorem dX2_takesFigure_29 : decode cX2_takesFigure 29 = .ok (.iaload, 1) := by decide +kernel
theorem dX2_takesFigure_30 : decode cX2_takesFigure 30 = .ok (.invokestatic 65, 3) := by decide +kernel
theorem dX2_takesFigure_33 : decode cX2_takesFigure 33 = .ok (.if_icmp .lt 5, 3) := by decide +kernel
theorem dX2_takesFigure_36 : decode cX2_takesFigure 36 = .ok (.iconst 0, 1) := by decide +kernel
theorem dX2_takesFigure_37 : decode cX2_takesFigure 37 = .ok (.ireturn, 1) := by decide +kernel
theorem dX2_takesFigure_38 : decode cX2_takesFigure 38 = .ok (.aload_n 0, 1) := by decide +kernel
theorem dX2_takesFigure_39 : decode cX2_takesFigure 39 = .ok (.getfield 15, 3) := by decide +kernel
theorem dX2_takesFigure_42 : decode cX2_takesFigure 42 = .ok (.aload_n 0, 1) := by decide +kernel
theorem dX2_takesFigure_43 : decode cX2_takesFigure 43 = .ok (.getfield 18, 3) := by decide +kernel
theorem dX2_takesFigure_46 : decode cX2_takesFigure 46 = .ok (.iconst 4, 1) := by decide +kernel
theorem dX2_takesFigure_47 : decode cX2_takesFigure 47 = .ok (.imul, 1) := by decide +kernel
theorem dX2_takesFigure_48 : decode cX2_takesFigure 48 = .ok (.aload_n 0, 1) := by decide +kernel
theorem dX2_takesFigure_49 : decode cX2_takesFigure 49 = .ok (.getfield 68, 3) := by decide +kernel
theorem dX2_takesFigure_52 : decode cX2_takesFigure 52 = .ok (.iadd, 1) := by decide +kernel
theorem dX2_takesFigure_53 : decode cX2_takesFigure 53 = .ok (.iconst 0, 1) := by decide +kernel
theorem dX2_takesFigure_54 : decode cX2_takesFigure 54 = .ok (.iastore, 1) := by decide +kernel
theorem dX2_takesFigure_55 : decode cX2_takesFigure 55 = .ok (.aload_n 0, 1) := by decide +kernel
theorem dX2_takesFigure_56 : decode cX2_takesFigure 56 = .ok (.dup, 1) := by decide +kernel
theorem dX2_takesFigure_57 : decode cX2_takesFigure 57 = .ok (.getfield 68, 3) := by decide +kernel
theorem dX2_takesFigure_60 : decode cX2_takesFigure 60 = .ok (.iconst 1, 1) := by decide +kernel
theorem dX2_takesFigure_61 : decode cX2_takesFigure 61 = .ok (.iadd, 1) := by decide +kernel
theorem dX2_takesFigure_62 : decode cX2_takesFigure 62 = .ok (.putfield 68, 3) := by decide +kernel
theorem dX2_takesFigure_65 : decode cX2_takesFigure 65 = .ok (.aload_n 0, 1) := by decide +kernel
theorem dX2_takesFigure_66 : decode cX2_takesFigure 66 = .ok (.getfield 18, 3) := by decide +kernel
theorem dX2_takesFigure_69 : decode cX2_takesFigure 69 = .ok (.iconst 4, 1) := by decide +kernel
theorem dX2_takesFigure_70 : decode cX2_takesFigure 70 = .ok (.imul, 1) := by decide +kernel
theorem dX2_takesFigure_71 : decode cX2_takesFigure 71 = .ok (.aload_n 0, 1) := by decide +kernel
theorem dX2_takesFigure_72 : decode cX2_takesFigure 72 = .ok (.getfield 68, 3) := by decide +kernel
theorem dX2_takesFigure_75 : decode cX2_takesFigure 75 = .ok (.iadd, 1) := by decide +kernel
theorem dX2_takesFigure_76 : decode cX2_takesFigure 76 = .ok (.iconst 1, 1) := by decide +kernel
theorem dX2_takesFigure_77 : decode cX2_takesFigure 77 = .ok (.isub, 1) := by decide +kernel
theorem dX2_takesFigure_78 : decode cX2_takesFigure 78 = .ok (.istore_n 2, 1) := by decide +kernel
theorem dX2_takesFigure_79 : decode cX2_takesFigure 79 = .ok (.aload_n 0, 1) := by decide +kernel
theorem dX2_takesFigure_80 : decode cX2_takesFigure 80 = .ok (.getfield 15, 3) := by decide +kernel
theorem dX2_takesFigure_83 : decode cX2_takesFigure 83 = .ok (.iload_n 2, 1) := by decide +kernel
theorem dX2_takesFigure_84 : decode cX2_takesFigure 84 = .ok (.bipush 10, 2) := by decide +kernel
theorem dX2_takesFigure_86 : decode cX2_takesFigure 86 = .ok (.aload_n 0, 1) := by decide +kernel
theorem dX2_takesFigure_87 : decode cX2_takesFigure 87 = .ok (.getfield 15, 3) := by decide +kernel
theorem dX2_takesFigure_90 : decode cX2_takesFigure 90 = .ok (.iload_n 2, 1) := by decide +kernel
theorem dX2_takesFigure_91 : decode cX2_takesFigure 91 = .ok (.iaload, 1) := by decide +kernel
theorem dX2_takesFigure_92 : decode cX2_takesFigure 92 = .ok (.imul, 1) := by decide +kernel
theorem dX2_takesFigure_93 : decode cX2_takesFigure 93 = .ok (.iload_n 1, 1) := by decide +kernel
theorem dX2_takesFigure_94 : decode cX2_takesFigure 94 = .ok (.iadd, 1) := by decide +kernel
theorem dX2_takesFigure_95 : decode cX2_takesFigure 95 = .ok (.iastore, 1) := by decide +kernel
theorem dX2_takesFigure_96 : decode cX2_takesFigure 96 = .ok (.aload_n 0, 1) := by decide +kernel
theorem dX2_takesFigure_97 : decode cX2_takesFigure 97 = .ok (.dup, 1) := by decide +kernel
theorem dX2_takesFigure_98 : decode cX2_takesFigure 98 = .ok (.getfield 48, 3) := by decide +kernel
theorem dX2_takesFigure_101 : decode cX2_takesFigure 101 = .ok (.iconst 1, 1) := by decide +kernel
theorem dX2_takesFigure_102 : decode cX2_takesFigure 102 = .ok (.iadd, 1) := by decide +kernel
theorem dX2_takesFigure_103 : decode cX2_takesFigure 103 = .ok (.putfield 48, 3) := by decide +kernel
theorem dX2_takesFigure_106 : decode cX2_takesFigure 106 = .ok (.iconst 1, 1) := by decide +kernel
theorem dX2_takesFigure_107 : decode cX2_takesFigure 107 = .ok (.ireturn, 1) := by decide +kernel
theorem dX2_numbersOf_0 : decode cX2_numbersOf 0 = .ok (.iload_n 0, 1) := by decide +kernel
theorem dX2_numbersOf_1 : decode cX2_numbersOf 1 = .ok (.lookupswitch 57 #[(99, 53), (101, 53), (112, 51), (115, 53), (120, 55)], 51) := by decide +kernel
theorem dX2_numbersOf_52 : decode cX2_numbersOf 52 = .ok (.iconst 4, 1) := by decide +kernel
theorem dX2_numbersOf_53 : decode cX2_numbersOf 53 = .ok (.ireturn, 1) := by decide +kernel
theorem dX2_numbersOf_54 : decode cX2_numbersOf 54 = .ok (.iconst 2, 1) := by decide +kernel
theorem dX2_numbersOf_55 : decode cX2_numbersOf 55 = .ok (.ireturn, 1) := by decide +kernel
theorem dX2_numbersOf_56 : decode cX2_numbersOf 56 = .ok (.iconst 1, 1) := by decide +kernel
theorem dX2_numbersOf_57 : decode cX2_numbersOf 57 = .ok (.ireturn, 1) := by decide +kernel
theorem dX2_numbersOf_58 : decode cX2_numbersOf 58 = .ok (.iconst 0, 1) := by decide +kernel
theorem dX2_numbersOf_59 : decode cX2_numbersOf 59 = .ok (.ireturn, 1) := by decide +kernel
set_option maxRecDepth 20000 in
theorem ggX3_init_X0_init : GoodIn wsX3_init wsX0_init := goodIn_r _ [9, 10, 2, 3, 11, 12, 13, 14, 15, 16, 17, 18, 19, 20, 21, 22, 25, 26, 27, 28, 29, 30, 31, 32, 33, 34, 35, 36, 37, 38] (by decide +kernel) (by decide +kernel)
set_option maxRecDepth 20000 in
theorem gX3_init_X0_init_n17 : GoodIn wsX3_init (wsX0_init) := ggX3_init_X0_init
theorem dX3_init_0 : decode cX3_init 0 = .ok (.aload_n 0, 1) := by decide +kernel
theorem dX3_init_1 : decode cX3_init 1 = .ok (.invokespecial 3, 3) := by decide +kernel
theorem dX3_init_4 : decode cX3_init 4 = .ok (.aload_n 0, 1) := by decide +kernel
theorem dX3_init_5 : decode cX3_init 5 = .ok (.bipush 6, 2) := by decide +kernel
theorem dX3_init_7 : decode cX3_init 7 = .ok (.anewarray 9, 3) := by decide +kernel
theorem dX3_init_10 : decode cX3_init 10 = .ok (.putfield 11, 3) := by decide +kernel
theorem dX3_init_13 : decode cX3_init 13 = .ok (.iconst 0, 1) := by decide +kernel
theorem dX3_init_14 : decode cX3_init 14 = .ok (.istore_n 1, 1) := by decide +kernel
theorem dX3_init_15 : decode cX3_init 15 = .ok (.iload_n 1, 1) := by decide +kernel
theorem dX3_init_16 : decode cX3_init 16 = .ok (.iconst 5, 1) := by decide +kernel
theorem dX3_init_17 : decode cX3_init 17 = .ok (.if_icmp .gt 22, 3) := by decide +kernel
theorem dX3_init_20 : decode cX3_init 20 = .ok (.aload_n 0, 1) := by decide +kernel
theorem dX3_init_21 : decode cX3_init 21 = .ok (.getfield 11, 3) := by decide +kernel
theorem dX3_init_24 : decode cX3_init 24 = .ok (.iload_n 1, 1) := by decide +kernel
theorem dX3_init_25 : decode cX3_init 25 = .ok (.new 9, 3) := by decide +kernel
theorem dX3_init_28 : decode cX3_init 28 = .ok (.dup, 1) := by decide +kernel
theorem dX3_init_29 : decode cX3_init 29 = .ok (.invokespecial 17, 3) := by decide +kernel
theorem dX3_init_32 : decode cX3_init 32 = .ok (.aastore, 1) := by decide +kernel
theorem dX3_init_33 : decode cX3_init 33 = .ok (.iinc 1 1, 3) := by decide +kernel
theorem dX3_init_36 : decode cX3_init 36 = .ok (.goto (-21), 3) := by decide +kernel
theorem dX3_init_39 : decode cX3_init 39 = .ok (.return_, 1) := by decide +kernel
set_option maxRecDepth 20000 in
theorem ggX3_mark_X0_copyFrom : GoodIn wsX3_mark wsX0_copyFrom := goodIn_r _ [7, 8, 9, 10, 11, 12, 13, 14, 15, 16, 17, 18, 19, 20, 21, 22, 23, 6, 24, 25, 26, 27, 28, 29, 30, 31, 32, 35, 36, 37, 38, 39, 40, 41, 42, 43, 44, 45, 46, 47, 48] (by decide +kernel) (by decide +kernel)
set_option maxRecDepth 20000 in
theorem gX3_mark_X0_copyFrom : GoodIn wsX3_mark (wsV RX3 22 RX0 yX0_copyFrom wsX0_copyFrom) := goodIn_app (goodIn_of _ (by decide +kernel)) ggX3_mark_X0_copyFrom
theorem dX3_mark_0 : decode cX3_mark 0 = .ok (.aload_n 0, 1) := by decide +kernel
theorem dX3_mark_1 : decode cX3_mark 1 = .ok (.getfield 11, 3) := by decide +kernel
theorem dX3_mark_4 : decode cX3_mark 4 = .ok (.aload_n 0, 1) := by decide +kernel
theorem dX3_mark_5 : decode cX3_mark 5 = .ok (.getfield 18, 3) := by decide +kernel
theorem dX3_mark_8 : decode cX3_mark 8 = .ok (.aaload, 1) := by decide +kernel
theorem dX3_mark_9 : decode cX3_mark 9 = .ok (.aload_n 1, 1) := by decide +kernel
theorem dX3_mark_10 : decode cX3_mark 10 = .ok (.invokevirtual 22, 3) := by decide +kernel
theorem dX3_mark_13 : decode cX3_mark 13 = .ok (.return_, 1) := by decide +kernel
set_option maxRecDepth 20000 in
theorem ggX3_toMark_X0_copyFrom : GoodIn wsX3_toMark wsX0_copyFrom := goodIn_r _ [7, 8, 9, 10, 11, 12, 13, 14, 15, 16, 17, 18, 19, 20, 21, 22, 23, 6, 24, 25, 26, 27, 28, 29, 30, 31, 32, 35, 36, 37, 38, 39, 40, 41, 42, 43, 44, 45, 46, 47, 48] (by decide +kernel) (by decide +kernel)
set_option maxRecDepth 20000 in
theorem gX3_toMark_X0_copyFrom : GoodIn wsX3_toMark (wsV RX3 22 RX0 yX0_copyFrom wsX0_copyFrom) := goodIn_app (goodIn_of _ (by decide +kernel)) ggX3_toMark_X0_copyFrom
theorem dX3_toMark_0 : decode cX3_toMark 0 = .ok (.aload_n 1, 1) := by decide +kernel
theorem dX3_toMark_1 : decode cX3_toMark 1 = .ok (.aload_n 0, 1) := by decide +kernel
theorem dX3_toMark_2 : decode cX3_toMark 2 = .ok (.getfield 11, 3) := by decide +kernel
theorem dX3_toMark_5 : decode cX3_toMark 5 = .ok (.aload_n 0, 1) := by decide +kernel
theorem dX3_toMark_6 : decode cX3_toMark 6 = .ok (.getfield 18, 3) := by decide +kernel
theorem dX3_toMark_9 : decode cX3_toMark 9 = .ok (.aaload, 1) := by decide +kernel
theorem dX3_toMark_10 : decode cX3_toMark 10 = .ok (.invokevirtual 22, 3) := by decide +kernel
theorem dX3_toMark_13 : decode cX3_toMark 13 = .ok (.return_, 1) := by decide +kernel
theorem dX3_keep_0 : decode cX3_keep 0 = .ok (.aload_n 0, 1) := by decide +kernel
theorem dX3_keep_1 : decode cX3_keep 1 = .ok (.getfield 18, 3) := by decide +kernel
theorem dX3_keep_4 : decode cX3_keep 4 = .ok (.iconst 5, 1) := by decide +kernel
theorem dX3_keep_5 : decode cX3_keep 5 = .ok (.if_icmp .ge 14, 3) := by decide +kernel
theorem dX3_keep_8 : decode cX3_keep 8 = .ok (.aload_n 0, 1) := by decide +kernel
theorem dX3_keep_9 : decode cX3_keep 9 = .ok (.dup, 1) := by decide +kernel
theorem dX3_keep_10 : decode cX3_keep 10 = .ok (.getfield 18, 3) := by decide +kernel
theorem dX3_keep_13 : decode cX3_keep 13 = .ok (.iconst 1, 1) := by decide +kernel
theorem dX3_keep_14 : decode cX3_keep 14 = .ok (.iadd, 1) := by decide +kernel
theorem dX3_keep_15 : decode cX3_keep 15 = .ok (.putfield 18, 3) := by decide +kernel
theorem dX3_keep_18 : decode cX3_keep 18 = .ok (.return_, 1) := by decide +kernel
theorem dX3_keep_19 : decode cX3_keep 19 = .ok (.aload_n 0, 1) := by decide +kernel
theorem dX3_keep_20 : decode cX3_keep 20 = .ok (.getfield 11, 3) := by decide +kernel
theorem dX3_keep_23 : decode cX3_keep 23 = .ok (.iconst 0, 1) := by decide +kernel
theorem dX3_keep_24 : decode cX3_keep 24 = .ok (.aaload, 1) := by decide +kernel
theorem dX3_keep_25 : decode cX3_keep 25 = .ok (.astore_n 1, 1) := by decide +kernel
theorem dX3_keep_26 : decode cX3_keep 26 = .ok (.iconst 0, 1) := by decide +kernel
theorem dX3_keep_27 : decode cX3_keep 27 = .ok (.istore_n 2, 1) := by decide +kernel
theorem dX3_keep_28 : decode cX3_keep 28 = .ok (.iload_n 2, 1) := by decide +kernel
theorem dX3_keep_29 : decode cX3_keep 29 = .ok (.iconst 5, 1) := by decide +kernel
theorem dX3_keep_30 : decode cX3_keep 30 = .ok (.if_icmp .ge 23, 3) := by decide +kernel
theorem dX3_keep_33 : decode cX3_keep 33 = .ok (.aload_n 0, 1) := by decide +kernel
theorem dX3_keep_34 : decode cX3_keep 34 = .ok (.getfield 11, 3) := by decide +kernel
theorem dX3_keep_37 : decode cX3_keep 37 = .ok (.iload_n 2, 1) := by decide +kernel
theorem dX3_keep_38 : decode cX3_keep 38 = .ok (.aload_n 0, 1) := by decide +kernel
theorem dX3_keep_39 : decode cX3_keep 39 = .ok (.getfield 11, 3) := by decide +kernel
theorem dX3_keep_42 : decode cX3_keep 42 = .ok (.iload_n 2, 1) := by decide +kernel
theorem dX3_keep_43 : decode cX3_keep 43 = .ok (.iconst 1, 1) := by decide +kernel
theorem dX3_keep_44 : decode cX3_keep 44 = .ok (.iadd, 1) := by decide +kernel
theorem dX3_keep_45 : decode cX3_keep 45 = .ok (.aaload, 1) := by decide +kernel
theorem dX3_keep_46 : decode cX3_keep 46 = .ok (.aastore, 1) := by decide +kernel
theorem dX3_keep_47 : decode cX3_keep 47 = .ok (.iinc 2 1, 3) := by decide +kernel
theorem dX3_keep_50 : decode cX3_keep 50 = .ok (.goto (-22), 3) := by decide +kernel
theorem dX3_keep_53 : decode cX3_keep 53 = .ok (.aload_n 0, 1) := by decide +kernel
theorem dX3_keep_54 : decode cX3_keep 54 = .ok (.getfield 11, 3) := by decide +kernel
theorem dX3_keep_57 : decode cX3_keep 57 = .ok (.iconst 5, 1) := by decide +kernel
theorem dX3_keep_58 : decode cX3_keep 58 = .ok (.aload_n 1, 1) := by decide +kernel
theorem dX3_keep_59 : decode cX3_keep 59 = .ok (.aastore, 1) := by decide +kernel
theorem dX3_keep_60 : decode cX3_keep 60 = .ok (.return_, 1) := by decide +kernel
set_option maxRecDepth 20000 in
theorem ggX3_undo_X0_copyFrom : GoodIn wsX3_undo wsX0_copyFrom := goodIn_r _ [7, 8, 9, 10, 11, 12, 13, 14, 15, 16, 17, 18, 19, 20, 21, 22, 23, 6, 24, 25, 26, 27, 28, 29, 30, 31, 32, 35, 36, 37, 38, 39, 40, 41, 42, 43, 44, 45, 46, 47, 48] (by decide +kernel) (by decide +kernel)
set_option maxRecDepth 20000 in
theorem gX3_undo_X0_copyFrom : GoodIn wsX3_undo (wsV RX3 22 RX0 yX0_copyFrom wsX0_copyFrom) := goodIn_app (goodIn_of _ (by decide +kernel)) ggX3_undo_X0_copyFrom
theorem dX3_undo_0 : decode cX3_undo 0 = .ok (.aload_n 0, 1) := by decide +kernel
theorem dX3_undo_1 : decode cX3_undo 1 = .ok (.getfield 18, 3) := by decide +kernel
theorem dX3_undo_4 : decode cX3_undo 4 = .ok (.ifCond .le 26, 3) := by decide +kernel
theorem dX3_undo_7 : decode cX3_undo 7 = .ok (.aload_n 0, 1) := by decide +kernel
theorem dX3_undo_8 : decode cX3_undo 8 = .ok (.dup, 1) := by decide +kernel
theorem dX3_undo_9 : decode cX3_undo 9 = .ok (.getfield 18, 3) := by decide +kernel
theorem dX3_undo_12 : decode cX3_undo 12 = .ok (.iconst 1, 1) := by decide +kernel
theorem dX3_undo_13 : decode cX3_undo 13 = .ok (.isub, 1) := by decide +kernel
theorem dX3_undo_14 : decode cX3_undo 14 = .ok (.putfield 18, 3) := by decide +kernel
theorem dX3_undo_17 : decode cX3_undo 17 = .ok (.aload_n 1, 1) := by decide +kernel
theorem dX3_undo_18 : decode cX3_undo 18 = .ok (.aload_n 0, 1) := by decide +kernel
theorem dX3_undo_19 : decode cX3_undo 19 = .ok (.getfield 11, 3) := by decide +kernel
theorem dX3_undo_22 : decode cX3_undo 22 = .ok (.aload_n 0, 1) := by decide +kernel
theorem dX3_undo_23 : decode cX3_undo 23 = .ok (.getfield 18, 3) := by decide +kernel
theorem dX3_undo_26 : decode cX3_undo 26 = .ok (.aaload, 1) := by decide +kernel
theorem dX3_undo_27 : decode cX3_undo 27 = .ok (.invokevirtual 22, 3) := by decide +kernel
theorem dX3_undo_30 : decode cX3_undo 30 = .ok (.return_, 1) := by decide +kernel
theorem dX4_init_0 : decode cX4_init 0 = .ok (.aload_n 0, 1) := by decide +kernel
theorem dX4_init_1 : decode cX4_init 1 = .ok (.invokespecial 3, 3) := by decide +kernel
theorem dX4_init_4 : decode cX4_init 4 = .ok (.aload_n 0, 1) := by decide +kernel
theorem dX4_init_5 : decode cX4_init 5 = .ok (.bipush 45, 2) := by decide +kernel
theorem dX4_init_7 : decode cX4_init 7 = .ok (.newarray .int, 2) := by decide +kernel
theorem dX4_init_9 : decode cX4_init 9 = .ok (.putfield 9, 3) := by decide +kernel
theorem dX4_init_12 : decode cX4_init 12 = .ok (.return_, 1) := by decide +kernel
theorem dX4_compare_0 : decode cX4_compare 0 = .ok (.aload_n 0, 1) := by decide +kernel
theorem dX4_compare_1 : decode cX4_compare 1 = .ok (.iconst 0, 1) := by decide +kernel
theorem dX4_compare_2 : decode cX4_compare 2 = .ok (.putfield 15, 3) := by decide +kernel
theorem dX4_compare_5 : decode cX4_compare 5 = .ok (.iconst 0, 1) := by decide +kernel
theorem dX4_compare_6 : decode cX4_compare 6 = .ok (.istore_n 2, 1) := by decide +kernel
theorem dX4_compare_7 : decode cX4_compare 7 = .ok (.iload_n 2, 1) := by decide +kernel
theorem dX4_compare_8 : decode cX4_compare 8 = .ok (.aload_n 1, 1) := by decide +kernel
theorem dX4_compare_9 : decode cX4_compare 9 = .ok (.getfield 19, 3) := by decide +kernel
theorem dX4_compare_12 : decode cX4_compare 12 = .ok (.if_icmp .ge 68, 3) := by decide +kernel
theorem dX4_compare_15 : decode cX4_compare 15 = .ok (.iload_n 2, 1) := by decide +kernel
theorem dX4_compare_16 : decode cX4_compare 16 = .ok (.iconst 1, 1) := by decide +kernel
theorem dX4_compare_17 : decode cX4_compare 17 = .ok (.iadd, 1) := by decide +kernel
theorem dX4_compare_18 : decode cX4_compare 18 = .ok (.istore_n 3, 1) := by decide +kernel
theorem dX4_compare_19 : decode cX4_compare 19 = .ok (.iload_n 3, 1) := by decide +kernel
theorem dX4_compare_20 : decode cX4_compare 20 = .ok (.aload_n 1, 1) := by decide +kernel
theorem dX4_compare_21 : decode cX4_compare 21 = .ok (.getfield 19, 3) := by decide +kernel
theorem dX4_compare_24 : decode cX4_compare 24 = .ok (.if_icmp .ge 50, 3) := by decide +kernel
theorem dX4_compare_27 : decode cX4_compare 27 = .ok (.aload_n 0, 1) := by decide +kernel
theorem dX4_compare_28 : decode cX4_compare 28 = .ok (.getfield 15, 3) := by decide +kernel
theorem dX4_compare_31 : decode cX4_compare 31 = .ok (.bipush 45, 2) := by decide +kernel
theorem dX4_compare_33 : decode cX4_compare 33 = .ok (.if_icmp .ge 41, 3) := by decide +kernel
theorem dX4_compare_36 : decode cX4_compare 36 = .ok (.aload_n 0, 1) := by decide +kernel
theorem dX4_compare_37 : decode cX4_compare 37 = .ok (.getfield 9, 3) := by decide +kernel
theorem dX4_compare_40 : decode cX4_compare 40 = .ok (.aload_n 0, 1) := by decide +kernel
theorem dX4_compare_41 : decode cX4_compare 41 = .ok (.getfield 15, 3) := by decide +kernel
theorem dX4_compare_44 : decode cX4_compare 44 = .ok (.aload_n 1, 1) := by decide +kernel
theorem dX4_compare_45 : decode cX4_compare 45 = .ok (.getfield 24, 3) := by decide +kernel
theorem dX4_compare_48 : decode cX4_compare 48 = .ok (.iload_n 2, 1) := by decide +kernel
theorem dX4_compare_49 : decode cX4_compare 49 = .ok (.iaload, 1) := by decide +kernel
theorem dX4_compare_50 : decode cX4_compare 50 = .ok (.aload_n 1, 1) := by decide +kernel
theorem dX4_compare_51 : decode cX4_compare 51 = .ok (.getfield 24, 3) := by decide +kernel
theorem dX4_compare_54 : decode cX4_compare 54 = .ok (.iload_n 3, 1) := by decide +kernel
theorem dX4_compare_55 : decode cX4_compare 55 = .ok (.iaload, 1) := by decide +kernel
theorem dX4_compare_56 : decode cX4_compare 56 = .ok (.ixor, 1) := by decide +kernel
theorem dX4_compare_57 : decode cX4_compare 57 = .ok (.iastore, 1) := by decide +kernel
theorem dX4_compare_58 : decode cX4_compare 58 = .ok (.aload_n 0, 1) := by decide +kernel
theorem dX4_compare_59 : decode cX4_compare 59 = .ok (.dup, 1) := by decide +kernel
theorem dX4_compare_60 : decode cX4_compare 60 = .ok (.getfield 15, 3) := by decide +kernel
theorem dX4_compare_63 : decode cX4_compare 63 = .ok (.iconst 1, 1) := by decide +kernel
theorem dX4_compare_64 : decode cX4_compare 64 = .ok (.iadd, 1) := by decide +kernel
theorem dX4_compare_65 : decode cX4_compare 65 = .ok (.putfield 15, 3) := by decide +kernel
theorem dX4_compare_68 : decode cX4_compare 68 = .ok (.iinc 3 1, 3) := by decide +kernel
theorem dX4_compare_71 : decode cX4_compare 71 = .ok (.goto (-52), 3) := by decide +kernel
theorem dX4_compare_74 : decode cX4_compare 74 = .ok (.iinc 2 1, 3) := by decide +kernel
theorem dX4_compare_77 : decode cX4_compare 77 = .ok (.goto (-70), 3) := by decide +kernel
theorem dX4_compare_80 : decode cX4_compare 80 = .ok (.return_, 1) := by decide +kernel
theorem dX4_untold_0 : decode cX4_untold 0 = .ok (.iconst 0, 1) := by decide +kernel
theorem dX4_untold_1 : decode cX4_untold 1 = .ok (.istore_n 2, 1) := by decide +kernel
theorem dX4_untold_2 : decode cX4_untold 2 = .ok (.iconst 0, 1) := by decide +kernel
theorem dX4_untold_3 : decode cX4_untold 3 = .ok (.istore_n 3, 1) := by decide +kernel
theorem dX4_untold_4 : decode cX4_untold 4 = .ok (.iload_n 3, 1) := by decide +kernel
theorem dX4_untold_5 : decode cX4_untold 5 = .ok (.aload_n 0, 1) := by decide +kernel
theorem dX4_untold_6 : decode cX4_untold 6 = .ok (.getfield 15, 3) := by decide +kernel
theorem dX4_untold_9 : decode cX4_untold 9 = .ok (.if_icmp .ge 23, 3) := by decide +kernel
theorem dX4_untold_12 : decode cX4_untold 12 = .ok (.aload_n 0, 1) := by decide +kernel
theorem dX4_untold_13 : decode cX4_untold 13 = .ok (.getfield 9, 3) := by decide +kernel
theorem dX4_untold_16 : decode cX4_untold 16 = .ok (.iload_n 3, 1) := by decide +kernel
theorem dX4_untold_17 : decode cX4_untold 17 = .ok (.iaload, 1) := by decide +kernel
theorem dX4_untold_18 : decode cX4_untold 18 = .ok (.iload_n 1, 1) := by decide +kernel
theorem dX4_untold_19 : decode cX4_untold 19 = .ok (.iand, 1) := by decide +kernel
theorem dX4_untold_20 : decode cX4_untold 20 = .ok (.ifCond .ne 6, 3) := by decide +kernel
theorem dX4_untold_23 : decode cX4_untold 23 = .ok (.iinc 2 1, 3) := by decide +kernel
theorem dX4_untold_26 : decode cX4_untold 26 = .ok (.iinc 3 1, 3) := by decide +kernel
theorem dX4_untold_29 : decode cX4_untold 29 = .ok (.goto (-25), 3) := by decide +kernel
theorem dX4_untold_32 : decode cX4_untold 32 = .ok (.iload_n 2, 1) := by decide +kernel
theorem dX4_untold_33 : decode cX4_untold 33 = .ok (.ireturn, 1) := by decide +kernel
set_option maxRecDepth 20000 in
theorem ggX4_fewest_J6_bitCount_0f7a4 : GoodIn wsX4_fewest wsJ6_bitCount_0f7a4 := goodIn_r _ [4, 5, 6, 7] (by decide +kernel) (by decide +kernel)
set_option maxRecDepth 20000 in
theorem gX4_fewest_J6_bitCount_0f7a4 : GoodIn wsX4_fewest (va_wsS RX4 27 yJ6_bitCount_0f7a4 wsJ6_bitCount_0f7a4) := goodIn_app (goodIn_of _ (by decide +kernel)) ggX4_fewest_J6_bitCount_0f7a4
set_option maxRecDepth 20000 in
theorem ggX4_fewest_X4_tellsAll : GoodIn wsX4_fewest wsX4_tellsAll := goodIn_r _ [12, 13, 14, 15, 16] (by decide +kernel) (by decide +kernel)
set_option maxRecDepth 20000 in
theorem gX4_fewest_X4_tellsAll : GoodIn wsX4_fewest (wsV RX4 33 RX4 yX4_tellsAll wsX4_tellsAll) := goodIn_app (goodIn_of _ (by decide +kernel)) ggX4_fewest_X4_tellsAll
theorem dX4_fewest_0 : decode cX4_fewest 0 = .ok (.iconst (-1), 1) := by decide +kernel
theorem dX4_fewest_1 : decode cX4_fewest 1 = .ok (.istore_n 2, 1) := by decide +kernel
theorem dX4_fewest_2 : decode cX4_fewest 2 = .ok (.iload_n 1, 1) := by decide +kernel
theorem dX4_fewest_3 : decode cX4_fewest 3 = .ok (.iconst 1, 1) := by decide +kernel
theorem dX4_fewest_4 : decode cX4_fewest 4 = .ok (.iadd, 1) := by decide +kernel
theorem dX4_fewest_5 : decode cX4_fewest 5 = .ok (.istore_n 3, 1) := by decide +kernel
theorem dX4_fewest_6 : decode cX4_fewest 6 = .ok (.iconst 0, 1) := by decide +kernel
theorem dX4_fewest_7 : decode cX4_fewest 7 = .ok (.istore 4, 2) := by decide +kernel
theorem dX4_fewest_9 : decode cX4_fewest 9 = .ok (.iload 4, 2) := by decide +kernel
theorem dX4_fewest_11 : decode cX4_fewest 11 = .ok (.iconst 1, 1) := by decide +kernel
theorem dX4_fewest_12 : decode cX4_fewest 12 = .ok (.iload_n 1, 1) := by decide +kernel
theorem dX4_fewest_13 : decode cX4_fewest 13 = .ok (.ishl, 1) := by decide +kernel
theorem dX4_fewest_14 : decode cX4_fewest 14 = .ok (.if_icmp .ge 37, 3) := by decide +kernel
theorem dX4_fewest_17 : decode cX4_fewest 17 = .ok (.iload 4, 2) := by decide +kernel
theorem dX4_fewest_19 : decode cX4_fewest 19 = .ok (.invokestatic 27, 3) := by decide +kernel
theorem dX4_fewest_22 : decode cX4_fewest 22 = .ok (.istore 5, 2) := by decide +kernel
theorem dX4_fewest_24 : decode cX4_fewest 24 = .ok (.iload 5, 2) := by decide +kernel
theorem dX4_fewest_26 : decode cX4_fewest 26 = .ok (.iload_n 3, 1) := by decide +kernel
theorem dX4_fewest_27 : decode cX4_fewest 27 = .ok (.if_icmp .ge 18, 3) := by decide +kernel
theorem dX4_fewest_30 : decode cX4_fewest 30 = .ok (.aload_n 0, 1) := by decide +kernel
theorem dX4_fewest_31 : decode cX4_fewest 31 = .ok (.iload 4, 2) := by decide +kernel
theorem dX4_fewest_33 : decode cX4_fewest 33 = .ok (.invokevirtual 33, 3) := by decide +kernel
theorem dX4_fewest_36 : decode cX4_fewest 36 = .ok (.ifCond .eq 9, 3) := by decide +kernel
theorem dX4_fewest_39 : decode cX4_fewest 39 = .ok (.iload 4, 2) := by decide +kernel
theorem dX4_fewest_41 : decode cX4_fewest 41 = .ok (.istore_n 2, 1) := by decide +kernel
theorem dX4_fewest_42 : decode cX4_fewest 42 = .ok (.iload 5, 2) := by decide +kernel
theorem dX4_fewest_44 : decode cX4_fewest 44 = .ok (.istore_n 3, 1) := by decide +kernel
theorem dX4_fewest_45 : decode cX4_fewest 45 = .ok (.iinc 4 1, 3) := by decide +kernel
theorem dX4_fewest_48 : decode cX4_fewest 48 = .ok (.goto (-39), 3) := by decide +kernel
theorem dX4_fewest_51 : decode cX4_fewest 51 = .ok (.iload_n 2, 1) := by decide +kernel
theorem dX4_fewest_52 : decode cX4_fewest 52 = .ok (.ireturn, 1) := by decide +kernel
theorem dX4_tellsAll_0 : decode cX4_tellsAll 0 = .ok (.iconst 0, 1) := by decide +kernel
theorem dX4_tellsAll_1 : decode cX4_tellsAll 1 = .ok (.istore_n 2, 1) := by decide +kernel
theorem dX4_tellsAll_2 : decode cX4_tellsAll 2 = .ok (.iload_n 2, 1) := by decide +kernel
theorem dX4_tellsAll_3 : decode cX4_tellsAll 3 = .ok (.aload_n 0, 1) := by decide +kernel
theorem dX4_tellsAll_4 : decode cX4_tellsAll 4 = .ok (.getfield 15, 3) := by decide +kernel
theorem dX4_tellsAll_7 : decode cX4_tellsAll 7 = .ok (.if_icmp .ge 22, 3) := by decide +kernel
theorem dX4_tellsAll_10 : decode cX4_tellsAll 10 = .ok (.aload_n 0, 1) := by decide +kernel
theorem dX4_tellsAll_11 : decode cX4_tellsAll 11 = .ok (.getfield 9, 3) := by decide +kernel
theorem dX4_tellsAll_14 : decode cX4_tellsAll 14 = .ok (.iload_n 2, 1) := by decide +kernel
theorem dX4_tellsAll_15 : decode cX4_tellsAll 15 = .ok (.iaload, 1) := by decide +kernel
theorem dX4_tellsAll_16 : decode cX4_tellsAll 16 = .ok (.iload_n 1, 1) := by decide +kernel
theorem dX4_tellsAll_17 : decode cX4_tellsAll 17 = .ok (.iand, 1) := by decide +kernel
theorem dX4_tellsAll_18 : decode cX4_tellsAll 18 = .ok (.ifCond .ne 5, 3) := by decide +kernel
theorem dX4_tellsAll_21 : decode cX4_tellsAll 21 = .ok (.iconst 0, 1) := by decide +kernel
theorem dX4_tellsAll_22 : decode cX4_tellsAll 22 = .ok (.ireturn, 1) := by decide +kernel
theorem dX4_tellsAll_23 : decode cX4_tellsAll 23 = .ok (.iinc 2 1, 3) := by decide +kernel
theorem dX4_tellsAll_26 : decode cX4_tellsAll 26 = .ok (.goto (-24), 3) := by decide +kernel
theorem dX4_tellsAll_29 : decode cX4_tellsAll 29 = .ok (.iconst 1, 1) := by decide +kernel
theorem dX4_tellsAll_30 : decode cX4_tellsAll 30 = .ok (.ireturn, 1) := by decide +kernel
set_option maxRecDepth 20000 in
theorem ggX5_init_X0_init : GoodIn wsX5_init wsX0_init := goodIn_r _ [27, 28, 2, 3, 29, 30, 31, 32, 33, 34, 35, 36, 37, 38, 39, 40, 62, 63, 64, 65, 66, 67, 68, 69, 70, 71, 72, 73, 74, 75] (by decide +kernel) (by decide +kernel)
set_option maxRecDepth 20000 in
theorem gX5_init_X0_init_n11 : GoodIn wsX5_init (wsX0_init) := ggX5_init_X0_init
set_option maxRecDepth 20000 in
theorem ggX5_init_X3_init : GoodIn wsX5_init wsX3_init := goodIn_r _ [43, 44, 2, 3, 45, 46, 5, 6, 26, 27, 28, 29, 30, 31, 32, 33, 34, 35, 36, 37, 38, 39, 40, 86, 87, 62, 63, 64, 65, 66, 67, 68, 69, 70, 71, 72, 73, 74, 75] (by decide +kernel) (by decide +kernel)
set_option maxRecDepth 20000 in
theorem gX5_init_X3_init : GoodIn wsX5_init (wsX3_init) := ggX5_init_X3_init
set_option maxRecDepth 20000 in
theorem ggX5_init_X1_init : GoodIn wsX5_init wsX1_init := goodIn_r _ [48, 49, 2, 3, 50, 51, 29, 52, 88, 89, 90] (by decide +kernel) (by decide +kernel)
set_option maxRecDepth 20000 in
theorem gX5_init_X1_init_n25 : GoodIn wsX5_init (wsX1_init) := ggX5_init_X1_init
set_option maxRecDepth 20000 in
theorem ggX5_init_X4_init : GoodIn wsX5_init wsX4_init := goodIn_r _ [54, 55, 2, 3, 29, 56, 91, 92] (by decide +kernel) (by decide +kernel)
set_option maxRecDepth 20000 in
theorem gX5_init_X4_init_n32 : GoodIn wsX5_init (wsX4_init) := ggX5_init_X4_init
set_option maxRecDepth 20000 in
theorem ggX5_init_X2_init : GoodIn wsX5_init wsX2_init := goodIn_r _ [58, 59, 2, 3, 29, 60, 61, 93, 94, 95, 96, 97, 98] (by decide +kernel) (by decide +kernel)
set_option maxRecDepth 20000 in
theorem gX5_init_X2_init_n39 : GoodIn wsX5_init (wsX2_init) := ggX5_init_X2_init
theorem dX5_init_0 : decode cX5_init 0 = .ok (.aload_n 0, 1) := by decide +kernel
theorem dX5_init_1 : decode cX5_init 1 = .ok (.invokespecial 3, 3) := by decide +kernel
theorem dX5_init_4 : decode cX5_init 4 = .ok (.aload_n 0, 1) := by decide +kernel
theorem dX5_init_5 : decode cX5_init 5 = .ok (.new 9, 3) := by decide +kernel
theorem dX5_init_8 : decode cX5_init 8 = .ok (.dup, 1) := by decide +kernel
theorem dX5_init_9 : decode cX5_init 9 = .ok (.invokespecial 11, 3) := by decide +kernel
theorem dX5_init_12 : decode cX5_init 12 = .ok (.putfield 12, 3) := by decide +kernel
theorem dX5_init_15 : decode cX5_init 15 = .ok (.aload_n 0, 1) := by decide +kernel
theorem dX5_init_16 : decode cX5_init 16 = .ok (.new 16, 3) := by decide +kernel
theorem dX5_init_19 : decode cX5_init 19 = .ok (.dup, 1) := by decide +kernel
theorem dX5_init_20 : decode cX5_init 20 = .ok (.invokespecial 18, 3) := by decide +kernel
theorem dX5_init_23 : decode cX5_init 23 = .ok (.putfield 19, 3) := by decide +kernel
theorem dX5_init_26 : decode cX5_init 26 = .ok (.aload_n 0, 1) := by decide +kernel
theorem dX5_init_27 : decode cX5_init 27 = .ok (.new 23, 3) := by decide +kernel
theorem dX5_init_30 : decode cX5_init 30 = .ok (.dup, 1) := by decide +kernel
theorem dX5_init_31 : decode cX5_init 31 = .ok (.invokespecial 25, 3) := by decide +kernel
theorem dX5_init_34 : decode cX5_init 34 = .ok (.putfield 26, 3) := by decide +kernel
theorem dX5_init_37 : decode cX5_init 37 = .ok (.aload_n 0, 1) := by decide +kernel
theorem dX5_init_38 : decode cX5_init 38 = .ok (.new 30, 3) := by decide +kernel
theorem dX5_init_41 : decode cX5_init 41 = .ok (.dup, 1) := by decide +kernel
theorem dX5_init_42 : decode cX5_init 42 = .ok (.invokespecial 32, 3) := by decide +kernel
theorem dX5_init_45 : decode cX5_init 45 = .ok (.putfield 33, 3) := by decide +kernel
theorem dX5_init_48 : decode cX5_init 48 = .ok (.aload_n 0, 1) := by decide +kernel
theorem dX5_init_49 : decode cX5_init 49 = .ok (.new 37, 3) := by decide +kernel
theorem dX5_init_52 : decode cX5_init 52 = .ok (.dup, 1) := by decide +kernel
theorem dX5_init_53 : decode cX5_init 53 = .ok (.invokespecial 39, 3) := by decide +kernel
theorem dX5_init_56 : decode cX5_init 56 = .ok (.putfield 40, 3) := by decide +kernel
theorem dX5_init_59 : decode cX5_init 59 = .ok (.aload_n 0, 1) := by decide +kernel
theorem dX5_init_60 : decode cX5_init 60 = .ok (.bipush 120, 2) := by decide +kernel
theorem dX5_init_62 : decode cX5_init 62 = .ok (.newarray .byte, 2) := by decide +kernel
theorem dX5_init_64 : decode cX5_init 64 = .ok (.putfield 44, 3) := by decide +kernel
theorem dX5_init_67 : decode cX5_init 67 = .ok (.return_, 1) := by decide +kernel
set_option maxRecDepth 20000 in
theorem ggX5_shaft_X3_mark : GoodIn wsX5_shaft wsX3_mark := goodIn_r _ [7, 8, 9, 10, 11, 12, 13, 14, 15, 16, 17, 18, 19, 20, 21, 22, 23, 24, 25, 26, 27, 28, 29, 30, 31, 32, 33, 34, 35, 36, 37, 38, 39, 104, 105, 106, 107, 108, 109, 110, 111, 112, 113, 114, 115, 116, 117, 118, 119] (by decide +kernel) (by decide +kernel)
set_option maxRecDepth 20000 in
theorem gX5_shaft_X3_mark : GoodIn wsX5_shaft (wsV RX5 48 RX3 yX3_mark wsX3_mark) := goodIn_app (goodIn_of _ (by decide +kernel)) ggX5_shaft_X3_mark
set_option maxRecDepth 20000 in
theorem ggX5_shaft_X0_addShaft : GoodIn wsX5_shaft wsX0_addShaft := goodIn_r _ [43, 15, 16, 17, 44, 45, 13, 46, 47, 48, 49, 50, 51, 52, 53, 54, 55, 56, 57, 58, 59, 60, 18, 19, 20, 21, 61, 62, 63, 64, 24, 65, 66, 67, 68, 69, 70, 71, 106, 107, 108, 109, 110, 111, 112, 113, 114, 115, 116, 117, 118, 119] (by decide +kernel) (by decide +kernel)
set_option maxRecDepth 20000 in
theorem gX5_shaft_X0_addShaft : GoodIn wsX5_shaft (wsV RX5 52 RX0 yX0_addShaft wsX0_addShaft) := goodIn_app (goodIn_of _ (by decide +kernel)) ggX5_shaft_X0_addShaft
set_option maxRecDepth 20000 in
theorem ggX5_shaft_X5_settled : GoodIn wsX5_shaft wsX5_settled := goodIn_r _ [75, 1, 76, 77, 78, 79, 48, 80, 81, 82, 83, 84, 85, 86, 6, 87, 9, 8, 88, 89, 90, 91, 92, 93, 94, 95, 96, 97, 98, 99, 100, 101, 102, 103, 104, 105, 120, 121, 122] (by decide +kernel) (by decide +kernel)
set_option maxRecDepth 20000 in
theorem gX5_shaft_X5_settled : GoodIn wsX5_shaft (wsV RX5 56 RX5 yX5_settled wsX5_settled) := goodIn_app (goodIn_of _ (by decide +kernel)) ggX5_shaft_X5_settled
theorem dX5_shaft_0 : decode cX5_shaft 0 = .ok (.aload_n 0, 1) := by decide +kernel
theorem dX5_shaft_1 : decode cX5_shaft 1 = .ok (.getfield 19, 3) := by decide +kernel
theorem dX5_shaft_4 : decode cX5_shaft 4 = .ok (.aload_n 0, 1) := by decide +kernel
theorem dX5_shaft_5 : decode cX5_shaft 5 = .ok (.getfield 12, 3) := by decide +kernel
theorem dX5_shaft_8 : decode cX5_shaft 8 = .ok (.invokevirtual 48, 3) := by decide +kernel
theorem dX5_shaft_11 : decode cX5_shaft 11 = .ok (.aload_n 0, 1) := by decide +kernel
theorem dX5_shaft_12 : decode cX5_shaft 12 = .ok (.aload_n 0, 1) := by decide +kernel
theorem dX5_shaft_13 : decode cX5_shaft 13 = .ok (.getfield 12, 3) := by decide +kernel
theorem dX5_shaft_16 : decode cX5_shaft 16 = .ok (.iload_n 1, 1) := by decide +kernel
theorem dX5_shaft_17 : decode cX5_shaft 17 = .ok (.iload_n 2, 1) := by decide +kernel
theorem dX5_shaft_18 : decode cX5_shaft 18 = .ok (.invokevirtual 52, 3) := by decide +kernel
theorem dX5_shaft_21 : decode cX5_shaft 21 = .ok (.invokevirtual 56, 3) := by decide +kernel
theorem dX5_shaft_24 : decode cX5_shaft 24 = .ok (.ireturn, 1) := by decide +kernel
set_option maxRecDepth 20000 in
theorem ggX5_sets_X3_mark : GoodIn wsX5_sets wsX3_mark := goodIn_r _ [7, 8, 9, 10, 11, 12, 13, 14, 15, 16, 17, 18, 19, 20, 21, 22, 23, 24, 25, 26, 27, 28, 29, 30, 31, 32, 33, 34, 35, 36, 37, 38, 39, 89, 90, 91, 92, 93, 94, 95, 96, 97, 98, 99, 100, 101, 102, 103, 104] (by decide +kernel) (by decide +kernel)
set_option maxRecDepth 20000 in
theorem gX5_sets_X3_mark : GoodIn wsX5_sets (wsV RX5 48 RX3 yX3_mark wsX3_mark) := goodIn_app (goodIn_of _ (by decide +kernel)) ggX5_sets_X3_mark
set_option maxRecDepth 20000 in
theorem ggX5_sets_X0_changeShaft : GoodIn wsX5_sets wsX0_changeShaft := goodIn_r _ [43, 16, 17, 44, 45, 46, 13, 47, 15, 48, 49, 50, 51, 52, 53, 54, 55, 56, 91, 92, 93, 94, 95, 96, 97, 98, 99, 100, 101, 102, 103, 104] (by decide +kernel) (by decide +kernel)
set_option maxRecDepth 20000 in
theorem gX5_sets_X0_changeShaft : GoodIn wsX5_sets (wsV RX5 60 RX0 yX0_changeShaft wsX0_changeShaft) := goodIn_app (goodIn_of _ (by decide +kernel)) ggX5_sets_X0_changeShaft
set_option maxRecDepth 20000 in
theorem ggX5_sets_X5_settled : GoodIn wsX5_sets wsX5_settled := goodIn_r _ [60, 1, 61, 62, 63, 64, 49, 65, 66, 67, 68, 69, 70, 71, 6, 72, 9, 8, 73, 74, 75, 76, 77, 78, 79, 80, 81, 82, 83, 84, 85, 86, 87, 88, 89, 90, 105, 106, 107] (by decide +kernel) (by decide +kernel)
set_option maxRecDepth 20000 in
theorem gX5_sets_X5_settled : GoodIn wsX5_sets (wsV RX5 56 RX5 yX5_settled wsX5_settled) := goodIn_app (goodIn_of _ (by decide +kernel)) ggX5_sets_X5_settled
theorem dX5_sets_0 : decode cX5_sets 0 = .ok (.aload_n 0, 1) := by decide +kernel
theorem dX5_sets_1 : decode cX5_sets 1 = .ok (.getfield 19, 3) := by decide +kernel
theorem dX5_sets_4 : decode cX5_sets 4 = .ok (.aload_n 0, 1) := by decide +kernel
theorem dX5_sets_5 : decode cX5_sets 5 = .ok (.getfield 12, 3) := by decide +kernel
theorem dX5_sets_8 : decode cX5_sets 8 = .ok (.invokevirtual 48, 3) := by decide +kernel
theorem dX5_sets_11 : decode cX5_sets 11 = .ok (.aload_n 0, 1) := by decide +kernel
theorem dX5_sets_12 : decode cX5_sets 12 = .ok (.aload_n 0, 1) := by decide +kernel
theorem dX5_sets_13 : decode cX5_sets 13 = .ok (.getfield 12, 3) := by decide +kernel
theorem dX5_sets_16 : decode cX5_sets 16 = .ok (.iload_n 1, 1) := by decide +kernel
theorem dX5_sets_17 : decode cX5_sets 17 = .ok (.iload_n 2, 1) := by decide +kernel
theorem dX5_sets_18 : decode cX5_sets 18 = .ok (.iload_n 3, 1) := by decide +kernel
theorem dX5_sets_19 : decode cX5_sets 19 = .ok (.invokevirtual 60, 3) := by decide +kernel
theorem dX5_sets_22 : decode cX5_sets 22 = .ok (.invokevirtual 56, 3) := by decide +kernel
theorem dX5_sets_25 : decode cX5_sets 25 = .ok (.ireturn, 1) := by decide +kernel
set_option maxRecDepth 20000 in
theorem ggX5_pipe_X3_mark : GoodIn wsX5_pipe wsX3_mark := goodIn_r _ [7, 8, 9, 10, 11, 12, 13, 14, 15, 16, 17, 18, 19, 20, 21, 22, 23, 24, 25, 26, 27, 28, 29, 30, 31, 32, 33, 34, 35, 36, 37, 38, 39, 106, 107, 108, 109, 110, 111, 112, 113, 114, 115, 116, 117, 118, 119, 120, 121] (by decide +kernel) (by decide +kernel)
set_option maxRecDepth 20000 in
theorem gX5_pipe_X3_mark : GoodIn wsX5_pipe (wsV RX5 48 RX3 yX3_mark wsX3_mark) := goodIn_app (goodIn_of _ (by decide +kernel)) ggX5_pipe_X3_mark
set_option maxRecDepth 20000 in
theorem ggX5_pipe_X0_addPipe : GoodIn wsX5_pipe wsX0_addPipe := goodIn_r _ [43, 19, 20, 21, 22, 23, 44, 45, 46, 13, 47, 15, 48, 49, 50, 51, 52, 53, 54, 18, 55, 56, 57, 58, 59, 60, 61, 62, 63, 64, 65, 66, 24, 67, 68, 69, 70, 71, 72, 73, 108, 109, 110, 111, 112, 113, 114, 115, 116, 117, 118, 119, 120, 121] (by decide +kernel) (by decide +kernel)
set_option maxRecDepth 20000 in
theorem gX5_pipe_X0_addPipe : GoodIn wsX5_pipe (wsV RX5 64 RX0 yX0_addPipe wsX0_addPipe) := goodIn_app (goodIn_of _ (by decide +kernel)) ggX5_pipe_X0_addPipe
set_option maxRecDepth 20000 in
theorem ggX5_pipe_X5_settled : GoodIn wsX5_pipe wsX5_settled := goodIn_r _ [77, 1, 78, 79, 80, 81, 49, 82, 83, 84, 85, 86, 87, 88, 6, 89, 9, 8, 90, 91, 92, 93, 94, 95, 96, 97, 98, 99, 100, 101, 102, 103, 104, 105, 106, 107, 122, 123, 124] (by decide +kernel) (by decide +kernel)
set_option maxRecDepth 20000 in
theorem gX5_pipe_X5_settled : GoodIn wsX5_pipe (wsV RX5 56 RX5 yX5_settled wsX5_settled) := goodIn_app (goodIn_of _ (by decide +kernel)) ggX5_pipe_X5_settled
theorem dX5_pipe_0 : decode cX5_pipe 0 = .ok (.aload_n 0, 1) := by decide +kernel
theorem dX5_pipe_1 : decode cX5_pipe 1 = .ok (.getfield 19, 3) := by decide +kernel
theorem dX5_pipe_4 : decode cX5_pipe 4 = .ok (.aload_n 0, 1) := by decide +kernel
theorem dX5_pipe_5 : decode cX5_pipe 5 = .ok (.getfield 12, 3) := by decide +kernel
theorem dX5_pipe_8 : decode cX5_pipe 8 = .ok (.invokevirtual 48, 3) := by decide +kernel
theorem dX5_pipe_11 : decode cX5_pipe 11 = .ok (.aload_n 0, 1) := by decide +kernel
theorem dX5_pipe_12 : decode cX5_pipe 12 = .ok (.aload_n 0, 1) := by decide +kernel
theorem dX5_pipe_13 : decode cX5_pipe 13 = .ok (.getfield 12, 3) := by decide +kernel
theorem dX5_pipe_16 : decode cX5_pipe 16 = .ok (.iload_n 1, 1) := by decide +kernel
theorem dX5_pipe_17 : decode cX5_pipe 17 = .ok (.iload_n 2, 1) := by decide +kernel
theorem dX5_pipe_18 : decode cX5_pipe 18 = .ok (.iload_n 3, 1) := by decide +kernel
theorem dX5_pipe_19 : decode cX5_pipe 19 = .ok (.iload 4, 2) := by decide +kernel
theorem dX5_pipe_21 : decode cX5_pipe 21 = .ok (.invokevirtual 64, 3) := by decide +kernel
theorem dX5_pipe_24 : decode cX5_pipe 24 = .ok (.invokevirtual 56, 3) := by decide +kernel
theorem dX5_pipe_27 : decode cX5_pipe 27 = .ok (.ireturn, 1) := by decide +kernel
set_option maxRecDepth 20000 in
theorem ggX5_drops_X3_mark : GoodIn wsX5_drops wsX3_mark := goodIn_r _ [7, 8, 9, 10, 11, 12, 13, 14, 15, 16, 17, 18, 19, 20, 21, 22, 23, 24, 25, 26, 27, 28, 29, 30, 31, 32, 33, 34, 35, 36, 37, 38, 39, 102, 103, 104, 105, 106, 107, 108, 109, 110, 111, 112, 113, 114, 115, 116, 117] (by decide +kernel) (by decide +kernel)
set_option maxRecDepth 20000 in
theorem gX5_drops_X3_mark : GoodIn wsX5_drops (wsV RX5 48 RX3 yX3_mark wsX3_mark) := goodIn_app (goodIn_of _ (by decide +kernel)) ggX5_drops_X3_mark
set_option maxRecDepth 20000 in
theorem ggX5_drops_X0_dropPipe : GoodIn wsX5_drops wsX0_dropPipe := goodIn_r _ [43, 19, 20, 21, 22, 23, 44, 45, 46, 13, 47, 48, 49, 50, 51, 52, 53, 54, 55, 56, 57, 58, 15, 18, 59, 60, 61, 62, 24, 63, 64, 65, 66, 67, 68, 69, 104, 105, 106, 107, 108, 109, 110, 111, 112, 113, 114, 115, 116, 117] (by decide +kernel) (by decide +kernel)
set_option maxRecDepth 20000 in
theorem gX5_drops_X0_dropPipe : GoodIn wsX5_drops (wsV RX5 68 RX0 yX0_dropPipe wsX0_dropPipe) := goodIn_app (goodIn_of _ (by decide +kernel)) ggX5_drops_X0_dropPipe
set_option maxRecDepth 20000 in
theorem ggX5_drops_X5_settled : GoodIn wsX5_drops wsX5_settled := goodIn_r _ [73, 1, 74, 75, 76, 77, 49, 78, 79, 80, 81, 82, 83, 84, 6, 85, 9, 8, 86, 87, 88, 89, 90, 91, 92, 93, 94, 95, 96, 97, 98, 99, 100, 101, 102, 103, 118, 119, 120] (by decide +kernel) (by decide +kernel)
set_option maxRecDepth 20000 in
theorem gX5_drops_X5_settled : GoodIn wsX5_drops (wsV RX5 56 RX5 yX5_settled wsX5_settled) := goodIn_app (goodIn_of _ (by decide +kernel)) ggX5_drops_X5_settled
theorem dX5_drops_0 : decode cX5_drops 0 = .ok (.aload_n 0, 1) := by decide +kernel
theorem dX5_drops_1 : decode cX5_drops 1 = .ok (.getfield 19, 3) := by decide +kernel
theorem dX5_drops_4 : decode cX5_drops 4 = .ok (.aload_n 0, 1) := by decide +kernel
theorem dX5_drops_5 : decode cX5_drops 5 = .ok (.getfield 12, 3) := by decide +kernel
theorem dX5_drops_8 : decode cX5_drops 8 = .ok (.invokevirtual 48, 3) := by decide +kernel
theorem dX5_drops_11 : decode cX5_drops 11 = .ok (.aload_n 0, 1) := by decide +kernel
theorem dX5_drops_12 : decode cX5_drops 12 = .ok (.aload_n 0, 1) := by decide +kernel
theorem dX5_drops_13 : decode cX5_drops 13 = .ok (.getfield 12, 3) := by decide +kernel
theorem dX5_drops_16 : decode cX5_drops 16 = .ok (.iload_n 1, 1) := by decide +kernel
theorem dX5_drops_17 : decode cX5_drops 17 = .ok (.invokevirtual 68, 3) := by decide +kernel
theorem dX5_drops_20 : decode cX5_drops 20 = .ok (.invokevirtual 56, 3) := by decide +kernel
theorem dX5_drops_23 : decode cX5_drops 23 = .ok (.ireturn, 1) := by decide +kernel
set_option maxRecDepth 20000 in
theorem ggX5_of_X0_hasShaft : GoodIn wsX5_of wsX0_hasShaft := goodIn_r _ [11, 12, 13, 14, 15, 47, 48, 49, 50, 51, 52, 53, 54, 55, 56, 57, 58, 59, 60] (by decide +kernel) (by decide +kernel)
set_option maxRecDepth 20000 in
theorem gX5_of_X0_hasShaft : GoodIn wsX5_of (wsV RX5 71 RX0 yX0_hasShaft wsX0_hasShaft) := goodIn_app (goodIn_of _ (by decide +kernel)) ggX5_of_X0_hasShaft
set_option maxRecDepth 20000 in
theorem ggX5_of_X5_refused : GoodIn wsX5_of wsX5_refused := goodIn_r _ [19, 20, 21, 22, 37, 38, 39, 40, 41, 42, 43, 44, 45, 46] (by decide +kernel) (by decide +kernel)
set_option maxRecDepth 20000 in
theorem gX5_of_X5_refused : GoodIn wsX5_of (wsV RX5 75 RX5 yX5_refused wsX5_refused) := goodIn_app (goodIn_of _ (by decide +kernel)) ggX5_of_X5_refused
set_option maxRecDepth 20000 in
theorem ggX5_of_X0_pipesAt : GoodIn wsX5_of wsX0_pipesAt := goodIn_r _ [26, 27, 47, 48, 49, 50, 51, 52, 53, 54, 55, 56, 57, 58, 59, 60] (by decide +kernel) (by decide +kernel)
set_option maxRecDepth 20000 in
theorem gX5_of_X0_pipesAt : GoodIn wsX5_of (wsV RX5 88 RX0 yX0_pipesAt wsX0_pipesAt) := goodIn_app (goodIn_of _ (by decide +kernel)) ggX5_of_X0_pipesAt
set_option maxRecDepth 20000 in
theorem ggX5_of_X0_above : GoodIn wsX5_of wsX0_above := goodIn_r _ [31, 12, 32, 33, 34, 10, 35, 36, 47, 48, 49, 50, 51, 52, 53, 54, 55, 56, 57, 58, 59, 60] (by decide +kernel) (by decide +kernel)
set_option maxRecDepth 20000 in
theorem gX5_of_X0_above : GoodIn wsX5_of (wsV RX5 98 RX0 yX0_above wsX0_above) := goodIn_app (goodIn_of _ (by decide +kernel)) ggX5_of_X0_above
theorem dX5_of_0 : decode cX5_of 0 = .ok (.aload_n 0, 1) := by decide +kernel
theorem dX5_of_1 : decode cX5_of 1 = .ok (.getfield 12, 3) := by decide +kernel
theorem dX5_of_4 : decode cX5_of 4 = .ok (.iload_n 1, 1) := by decide +kernel
theorem dX5_of_5 : decode cX5_of 5 = .ok (.invokevirtual 71, 3) := by decide +kernel
theorem dX5_of_8 : decode cX5_of 8 = .ok (.ifCond .ne 10, 3) := by decide +kernel
theorem dX5_of_11 : decode cX5_of 11 = .ok (.aload_n 0, 1) := by decide +kernel
theorem dX5_of_12 : decode cX5_of 12 = .ok (.bipush (-2), 2) := by decide +kernel
theorem dX5_of_14 : decode cX5_of 14 = .ok (.invokevirtual 75, 3) := by decide +kernel
theorem dX5_of_17 : decode cX5_of 17 = .ok (.ireturn, 1) := by decide +kernel
theorem dX5_of_18 : decode cX5_of 18 = .ok (.iload_n 2, 1) := by decide +kernel
theorem dX5_of_19 : decode cX5_of 19 = .ok (.tableswitch 108 0 5 #[37, 47, 57, 73, 89, 99], 37) := by decide +kernel
theorem dX5_of_56 : decode cX5_of 56 = .ok (.aload_n 0, 1) := by decide +kernel
theorem dX5_of_57 : decode cX5_of 57 = .ok (.getfield 12, 3) := by decide +kernel
theorem dX5_of_60 : decode cX5_of 60 = .ok (.getfield 78, 3) := by decide +kernel
theorem dX5_of_63 : decode cX5_of 63 = .ok (.iload_n 1, 1) := by decide +kernel
theorem dX5_of_64 : decode cX5_of 64 = .ok (.iaload, 1) := by decide +kernel
theorem dX5_of_65 : decode cX5_of 65 = .ok (.ireturn, 1) := by decide +kernel
theorem dX5_of_66 : decode cX5_of 66 = .ok (.aload_n 0, 1) := by decide +kernel
theorem dX5_of_67 : decode cX5_of 67 = .ok (.getfield 12, 3) := by decide +kernel
theorem dX5_of_70 : decode cX5_of 70 = .ok (.getfield 82, 3) := by decide +kernel
theorem dX5_of_73 : decode cX5_of 73 = .ok (.iload_n 1, 1) := by decide +kernel
theorem dX5_of_74 : decode cX5_of 74 = .ok (.iaload, 1) := by decide +kernel
theorem dX5_of_75 : decode cX5_of 75 = .ok (.ireturn, 1) := by decide +kernel
theorem dX5_of_76 : decode cX5_of 76 = .ok (.aload_n 0, 1) := by decide +kernel
theorem dX5_of_77 : decode cX5_of 77 = .ok (.getfield 12, 3) := by decide +kernel
theorem dX5_of_80 : decode cX5_of 80 = .ok (.aload_n 0, 1) := by decide +kernel
theorem dX5_of_81 : decode cX5_of 81 = .ok (.getfield 12, 3) := by decide +kernel
theorem dX5_of_84 : decode cX5_of 84 = .ok (.getfield 85, 3) := by decide +kernel
theorem dX5_of_87 : decode cX5_of 87 = .ok (.iload_n 1, 1) := by decide +kernel
theorem dX5_of_88 : decode cX5_of 88 = .ok (.invokevirtual 88, 3) := by decide +kernel
theorem dX5_of_91 : decode cX5_of 91 = .ok (.ireturn, 1) := by decide +kernel
theorem dX5_of_92 : decode cX5_of 92 = .ok (.aload_n 0, 1) := by decide +kernel
theorem dX5_of_93 : decode cX5_of 93 = .ok (.getfield 12, 3) := by decide +kernel
theorem dX5_of_96 : decode cX5_of 96 = .ok (.aload_n 0, 1) := by decide +kernel
theorem dX5_of_97 : decode cX5_of 97 = .ok (.getfield 12, 3) := by decide +kernel
theorem dX5_of_100 : decode cX5_of 100 = .ok (.getfield 92, 3) := by decide +kernel
theorem dX5_of_103 : decode cX5_of 103 = .ok (.iload_n 1, 1) := by decide +kernel
theorem dX5_of_104 : decode cX5_of 104 = .ok (.invokevirtual 88, 3) := by decide +kernel
theorem dX5_of_107 : decode cX5_of 107 = .ok (.ireturn, 1) := by decide +kernel
theorem dX5_of_108 : decode cX5_of 108 = .ok (.aload_n 0, 1) := by decide +kernel
theorem dX5_of_109 : decode cX5_of 109 = .ok (.getfield 12, 3) := by decide +kernel
theorem dX5_of_112 : decode cX5_of 112 = .ok (.getfield 95, 3) := by decide +kernel
theorem dX5_of_115 : decode cX5_of 115 = .ok (.iload_n 1, 1) := by decide +kernel
theorem dX5_of_116 : decode cX5_of 116 = .ok (.iaload, 1) := by decide +kernel
theorem dX5_of_117 : decode cX5_of 117 = .ok (.ireturn, 1) := by decide +kernel
theorem dX5_of_118 : decode cX5_of 118 = .ok (.aload_n 0, 1) := by decide +kernel
theorem dX5_of_119 : decode cX5_of 119 = .ok (.getfield 12, 3) := by decide +kernel
theorem dX5_of_122 : decode cX5_of 122 = .ok (.iload_n 1, 1) := by decide +kernel
theorem dX5_of_123 : decode cX5_of 123 = .ok (.invokevirtual 98, 3) := by decide +kernel
theorem dX5_of_126 : decode cX5_of 126 = .ok (.ireturn, 1) := by decide +kernel
theorem dX5_of_127 : decode cX5_of 127 = .ok (.aload_n 0, 1) := by decide +kernel
theorem dX5_of_128 : decode cX5_of 128 = .ok (.bipush (-2), 2) := by decide +kernel
theorem dX5_of_130 : decode cX5_of 130 = .ok (.invokevirtual 75, 3) := by decide +kernel
theorem dX5_of_133 : decode cX5_of 133 = .ok (.ireturn, 1) := by decide +kernel
set_option maxRecDepth 20000 in
theorem ggX5_about_X0_hasPipe : GoodIn wsX5_about wsX0_hasPipe := goodIn_r _ [10, 11, 12, 13, 14, 32, 33, 34, 35, 36, 37, 38, 39, 40, 41, 42, 43, 44, 45] (by decide +kernel) (by decide +kernel)
set_option maxRecDepth 20000 in
theorem gX5_about_X0_hasPipe : GoodIn wsX5_about (wsV RX5 101 RX0 yX0_hasPipe wsX0_hasPipe) := goodIn_app (goodIn_of _ (by decide +kernel)) ggX5_about_X0_hasPipe
set_option maxRecDepth 20000 in
theorem ggX5_about_X5_refused : GoodIn wsX5_about wsX5_refused := goodIn_r _ [18, 19, 20, 21, 22, 23, 24, 25, 26, 27, 28, 29, 30, 31] (by decide +kernel) (by decide +kernel)
set_option maxRecDepth 20000 in
theorem gX5_about_X5_refused : GoodIn wsX5_about (wsV RX5 75 RX5 yX5_refused wsX5_refused) := goodIn_app (goodIn_of _ (by decide +kernel)) ggX5_about_X5_refused
theorem dX5_about_0 : decode cX5_about 0 = .ok (.aload_n 0, 1) := by decide +kernel
theorem dX5_about_1 : decode cX5_about 1 = .ok (.getfield 12, 3) := by decide +kernel
theorem dX5_about_4 : decode cX5_about 4 = .ok (.iload_n 1, 1) := by decide +kernel
theorem dX5_about_5 : decode cX5_about 5 = .ok (.invokevirtual 101, 3) := by decide +kernel
theorem dX5_about_8 : decode cX5_about 8 = .ok (.ifCond .ne 10, 3) := by decide +kernel
theorem dX5_about_11 : decode cX5_about 11 = .ok (.aload_n 0, 1) := by decide +kernel
theorem dX5_about_12 : decode cX5_about 12 = .ok (.bipush (-2), 2) := by decide +kernel
theorem dX5_about_14 : decode cX5_about 14 = .ok (.invokevirtual 75, 3) := by decide +kernel
theorem dX5_about_17 : decode cX5_about 17 = .ok (.ireturn, 1) := by decide +kernel
theorem dX5_about_18 : decode cX5_about 18 = .ok (.iload_n 2, 1) := by decide +kernel
theorem dX5_about_19 : decode cX5_about 19 = .ok (.tableswitch 69 0 3 #[29, 39, 49, 59], 29) := by decide +kernel
theorem dX5_about_48 : decode cX5_about 48 = .ok (.aload_n 0, 1) := by decide +kernel
theorem dX5_about_49 : decode cX5_about 49 = .ok (.getfield 12, 3) := by decide +kernel
theorem dX5_about_52 : decode cX5_about 52 = .ok (.getfield 85, 3) := by decide +kernel
theorem dX5_about_55 : decode cX5_about 55 = .ok (.iload_n 1, 1) := by decide +kernel
theorem dX5_about_56 : decode cX5_about 56 = .ok (.iaload, 1) := by decide +kernel
theorem dX5_about_57 : decode cX5_about 57 = .ok (.ireturn, 1) := by decide +kernel
theorem dX5_about_58 : decode cX5_about 58 = .ok (.aload_n 0, 1) := by decide +kernel
theorem dX5_about_59 : decode cX5_about 59 = .ok (.getfield 12, 3) := by decide +kernel
theorem dX5_about_62 : decode cX5_about 62 = .ok (.getfield 92, 3) := by decide +kernel
theorem dX5_about_65 : decode cX5_about 65 = .ok (.iload_n 1, 1) := by decide +kernel
theorem dX5_about_66 : decode cX5_about 66 = .ok (.iaload, 1) := by decide +kernel
theorem dX5_about_67 : decode cX5_about 67 = .ok (.ireturn, 1) := by decide +kernel
theorem dX5_about_68 : decode cX5_about 68 = .ok (.aload_n 0, 1) := by decide +kernel
theorem dX5_about_69 : decode cX5_about 69 = .ok (.getfield 12, 3) := by decide +kernel
theorem dX5_about_72 : decode cX5_about 72 = .ok (.getfield 104, 3) := by decide +kernel
theorem dX5_about_75 : decode cX5_about 75 = .ok (.iload_n 1, 1) := by decide +kernel
theorem dX5_about_76 : decode cX5_about 76 = .ok (.iaload, 1) := by decide +kernel
theorem dX5_about_77 : decode cX5_about 77 = .ok (.ireturn, 1) := by decide +kernel
theorem dX5_about_78 : decode cX5_about 78 = .ok (.aload_n 0, 1) := by decide +kernel
theorem dX5_about_79 : decode cX5_about 79 = .ok (.getfield 12, 3) := by decide +kernel
theorem dX5_about_82 : decode cX5_about 82 = .ok (.getfield 107, 3) := by decide +kernel
theorem dX5_about_85 : decode cX5_about 85 = .ok (.iload_n 1, 1) := by decide +kernel
theorem dX5_about_86 : decode cX5_about 86 = .ok (.iaload, 1) := by decide +kernel
theorem dX5_about_87 : decode cX5_about 87 = .ok (.ireturn, 1) := by decide +kernel
theorem dX5_about_88 : decode cX5_about 88 = .ok (.aload_n 0, 1) := by decide +kernel
theorem dX5_about_89 : decode cX5_about 89 = .ok (.bipush (-2), 2) := by decide +kernel
theorem dX5_about_91 : decode cX5_about 91 = .ok (.invokevirtual 75, 3) := by decide +kernel
theorem dX5_about_94 : decode cX5_about 94 = .ok (.ireturn, 1) := by decide +kernel
set_option maxRecDepth 20000 in
theorem ggX5_comes_X5_isStart : GoodIn wsX5_comes wsX5_isStart := goodIn_r _ [8, 1, 9, 10, 11, 12, 13, 14, 15, 7, 16, 17, 56, 57, 58, 59, 60, 61, 62, 63, 64, 65, 69, 70, 71, 72, 73, 74, 75, 76, 77, 78, 79, 80, 81, 82] (by decide +kernel) (by decide +kernel)
set_option maxRecDepth 20000 in
theorem gX5_comes_X5_isStart : GoodIn wsX5_comes (wsV RX5 110 RX5 yX5_isStart wsX5_isStart) := goodIn_app (goodIn_of _ (by decide +kernel)) ggX5_comes_X5_isStart
set_option maxRecDepth 20000 in
theorem ggX5_comes_X0_hasShaft : GoodIn wsX5_comes wsX0_hasShaft := goodIn_r _ [13, 14, 15, 7, 16, 69, 70, 71, 72, 73, 74, 75, 76, 77, 78, 79, 80, 81, 82] (by decide +kernel) (by decide +kernel)
set_option maxRecDepth 20000 in
theorem gX5_comes_X0_hasShaft : GoodIn wsX5_comes (wsV RX5 71 RX0 yX0_hasShaft wsX0_hasShaft) := goodIn_app (goodIn_of _ (by decide +kernel)) ggX5_comes_X0_hasShaft
set_option maxRecDepth 20000 in
theorem ggX5_comes_X5_refused : GoodIn wsX5_comes wsX5_refused := goodIn_r _ [21, 22, 23, 24, 56, 57, 58, 59, 60, 61, 62, 63, 64, 65] (by decide +kernel) (by decide +kernel)
set_option maxRecDepth 20000 in
theorem gX5_comes_X5_refused : GoodIn wsX5_comes (wsV RX5 75 RX5 yX5_refused wsX5_refused) := goodIn_app (goodIn_of _ (by decide +kernel)) ggX5_comes_X5_refused
set_option maxRecDepth 20000 in
theorem ggX5_comes_X1_walk : GoodIn wsX5_comes wsX1_walk := goodIn_r _ [29, 30, 31, 32, 33, 34, 35, 36, 37, 38, 39, 40, 41, 12, 42, 43, 44, 45, 46, 47, 48, 49, 50, 51, 52, 53, 54, 55, 66, 67, 68, 69, 70, 71, 72, 73, 74, 75, 76, 77, 78, 79, 80, 81, 82] (by decide +kernel) (by decide +kernel)
set_option maxRecDepth 20000 in
theorem gX5_comes_X1_walk : GoodIn wsX5_comes (wsV RX5 114 RX1 yX1_walk wsX1_walk) := goodIn_app (goodIn_of _ (by decide +kernel)) ggX5_comes_X1_walk
theorem dX5_comes_0 : decode cX5_comes 0 = .ok (.aload_n 0, 1) := by decide +kernel
theorem dX5_comes_1 : decode cX5_comes 1 = .ok (.iload_n 1, 1) := by decide +kernel
theorem dX5_comes_2 : decode cX5_comes 2 = .ok (.iload_n 2, 1) := by decide +kernel
theorem dX5_comes_3 : decode cX5_comes 3 = .ok (.invokevirtual 110, 3) := by decide +kernel
theorem dX5_comes_6 : decode cX5_comes 6 = .ok (.ifCond .eq 14, 3) := by decide +kernel
theorem dX5_comes_9 : decode cX5_comes 9 = .ok (.aload_n 0, 1) := by decide +kernel
theorem dX5_comes_10 : decode cX5_comes 10 = .ok (.getfield 12, 3) := by decide +kernel
theorem dX5_comes_13 : decode cX5_comes 13 = .ok (.iload_n 3, 1) := by decide +kernel
theorem dX5_comes_14 : decode cX5_comes 14 = .ok (.invokevirtual 71, 3) := by decide +kernel
theorem dX5_comes_17 : decode cX5_comes 17 = .ok (.ifCond .ne 11, 3) := by decide +kernel
theorem dX5_comes_20 : decode cX5_comes 20 = .ok (.aload_n 0, 1) := by decide +kernel
theorem dX5_comes_21 : decode cX5_comes 21 = .ok (.bipush (-2), 2) := by decide +kernel
theorem dX5_comes_23 : decode cX5_comes 23 = .ok (.invokevirtual 75, 3) := by decide +kernel
theorem dX5_comes_26 : decode cX5_comes 26 = .ok (.i2l, 1) := by decide +kernel
theorem dX5_comes_27 : decode cX5_comes 27 = .ok (.lreturn, 1) := by decide +kernel
theorem dX5_comes_28 : decode cX5_comes 28 = .ok (.aload_n 0, 1) := by decide +kernel
theorem dX5_comes_29 : decode cX5_comes 29 = .ok (.getfield 26, 3) := by decide +kernel
theorem dX5_comes_32 : decode cX5_comes 32 = .ok (.aload_n 0, 1) := by decide +kernel
theorem dX5_comes_33 : decode cX5_comes 33 = .ok (.getfield 12, 3) := by decide +kernel
theorem dX5_comes_36 : decode cX5_comes 36 = .ok (.iload_n 1, 1) := by decide +kernel
theorem dX5_comes_37 : decode cX5_comes 37 = .ok (.iload_n 2, 1) := by decide +kernel
theorem dX5_comes_38 : decode cX5_comes 38 = .ok (.invokevirtual 114, 3) := by decide +kernel
theorem dX5_comes_41 : decode cX5_comes 41 = .ok (.aload_n 0, 1) := by decide +kernel
theorem dX5_comes_42 : decode cX5_comes 42 = .ok (.getfield 26, 3) := by decide +kernel
theorem dX5_comes_45 : decode cX5_comes 45 = .ok (.getfield 118, 3) := by decide +kernel
theorem dX5_comes_48 : decode cX5_comes 48 = .ok (.iload_n 3, 1) := by decide +kernel
theorem dX5_comes_49 : decode cX5_comes 49 = .ok (.laload, 1) := by decide +kernel
theorem dX5_comes_50 : decode cX5_comes 50 = .ok (.lreturn, 1) := by decide +kernel
set_option maxRecDepth 20000 in
theorem ggX5_times_X5_isStart : GoodIn wsX5_times wsX5_isStart := goodIn_r _ [8, 1, 9, 10, 11, 12, 13, 14, 15, 7, 16, 17, 77, 78, 79, 80, 81, 82, 83, 84, 85, 86, 90, 91, 92, 93, 94, 95, 96, 97, 98, 99, 100, 101, 102, 103] (by decide +kernel) (by decide +kernel)
set_option maxRecDepth 20000 in
theorem gX5_times_X5_isStart : GoodIn wsX5_times (wsV RX5 110 RX5 yX5_isStart wsX5_isStart) := goodIn_app (goodIn_of _ (by decide +kernel)) ggX5_times_X5_isStart
set_option maxRecDepth 20000 in
theorem ggX5_times_X0_hasShaft : GoodIn wsX5_times wsX0_hasShaft := goodIn_r _ [13, 14, 15, 7, 16, 90, 91, 92, 93, 94, 95, 96, 97, 98, 99, 100, 101, 102, 103] (by decide +kernel) (by decide +kernel)
set_option maxRecDepth 20000 in
theorem gX5_times_X0_hasShaft : GoodIn wsX5_times (wsV RX5 71 RX0 yX0_hasShaft wsX0_hasShaft) := goodIn_app (goodIn_of _ (by decide +kernel)) ggX5_times_X0_hasShaft
set_option maxRecDepth 20000 in
theorem ggX5_times_X5_within : GoodIn wsX5_times wsX5_within := goodIn_r _ [16] (by decide +kernel) (by decide +kernel)
set_option maxRecDepth 20000 in
theorem gX5_times_X5_within : GoodIn wsX5_times (va_wsS RX5 122 yX5_within wsX5_within) := goodIn_app (goodIn_of _ (by decide +kernel)) ggX5_times_X5_within
set_option maxRecDepth 20000 in
theorem ggX5_times_X5_refused : GoodIn wsX5_times wsX5_refused := goodIn_r _ [21, 22, 23, 24, 77, 78, 79, 80, 81, 82, 83, 84, 85, 86] (by decide +kernel) (by decide +kernel)
set_option maxRecDepth 20000 in
theorem gX5_times_X5_refused : GoodIn wsX5_times (wsV RX5 75 RX5 yX5_refused wsX5_refused) := goodIn_app (goodIn_of _ (by decide +kernel)) ggX5_times_X5_refused
set_option maxRecDepth 20000 in
theorem ggX5_times_X1_walk : GoodIn wsX5_times wsX1_walk := goodIn_r _ [29, 30, 31, 32, 33, 34, 35, 36, 37, 38, 39, 40, 41, 12, 42, 43, 44, 45, 46, 47, 48, 49, 50, 51, 52, 53, 54, 55, 87, 88, 89, 90, 91, 92, 93, 94, 95, 96, 97, 98, 99, 100, 101, 102, 103] (by decide +kernel) (by decide +kernel)
set_option maxRecDepth 20000 in
theorem gX5_times_X1_walk : GoodIn wsX5_times (wsV RX5 114 RX1 yX1_walk wsX1_walk) := goodIn_app (goodIn_of _ (by decide +kernel)) ggX5_times_X1_walk
set_option maxRecDepth 20000 in
theorem ggX5_times_J13_bitCount_95d88 : GoodIn wsX5_times wsJ13_bitCount_95d88 := goodIn_r _ [59, 60, 61, 62] (by decide +kernel) (by decide +kernel)
set_option maxRecDepth 20000 in
theorem gX5_times_J13_bitCount_95d88 : GoodIn wsX5_times (va_wsS RX5 126 yJ13_bitCount_95d88 wsJ13_bitCount_95d88) := goodIn_app (goodIn_of _ (by decide +kernel)) ggX5_times_J13_bitCount_95d88
set_option maxRecDepth 20000 in
theorem ggX5_times_J13_numberOfTrailingZeros_95d88 : GoodIn wsX5_times wsJ13_numberOfTrailingZeros_95d88 := goodIn_r _ [65, 66, 67, 68, 69, 70] (by decide +kernel) (by decide +kernel)
set_option maxRecDepth 20000 in
theorem gX5_times_J13_numberOfTrailingZeros_95d88 : GoodIn wsX5_times (va_wsS RX5 132 yJ13_numberOfTrailingZeros_95d88 wsJ13_numberOfTrailingZeros_95d88) := goodIn_app (goodIn_of _ (by decide +kernel)) ggX5_times_J13_numberOfTrailingZeros_95d88
set_option maxRecDepth 20000 in
theorem ggX5_times_J13_numberOfLeadingZeros_95d88 : GoodIn wsX5_times wsJ13_numberOfLeadingZeros_95d88 := goodIn_r _ [73, 74, 75, 68, 76, 70] (by decide +kernel) (by decide +kernel)
set_option maxRecDepth 20000 in
theorem gX5_times_J13_numberOfLeadingZeros_95d88 : GoodIn wsX5_times (va_wsS RX5 135 yJ13_numberOfLeadingZeros_95d88 wsJ13_numberOfLeadingZeros_95d88) := goodIn_app (goodIn_of _ (by decide +kernel)) ggX5_times_J13_numberOfLeadingZeros_95d88
theorem dX5_times_0 : decode cX5_times 0 = .ok (.aload_n 0, 1) := by decide +kernel
theorem dX5_times_1 : decode cX5_times 1 = .ok (.iload_n 1, 1) := by decide +kernel
theorem dX5_times_2 : decode cX5_times 2 = .ok (.iload_n 2, 1) := by decide +kernel
theorem dX5_times_3 : decode cX5_times 3 = .ok (.invokevirtual 110, 3) := by decide +kernel
theorem dX5_times_6 : decode cX5_times 6 = .ok (.ifCond .eq 24, 3) := by decide +kernel
theorem dX5_times_9 : decode cX5_times 9 = .ok (.aload_n 0, 1) := by decide +kernel
theorem dX5_times_10 : decode cX5_times 10 = .ok (.getfield 12, 3) := by decide +kernel
theorem dX5_times_13 : decode cX5_times 13 = .ok (.iload_n 3, 1) := by decide +kernel
theorem dX5_times_14 : decode cX5_times 14 = .ok (.invokevirtual 71, 3) := by decide +kernel
theorem dX5_times_17 : decode cX5_times 17 = .ok (.ifCond .eq 13, 3) := by decide +kernel
theorem dX5_times_20 : decode cX5_times 20 = .ok (.iload 4, 2) := by decide +kernel
theorem dX5_times_22 : decode cX5_times 22 = .ok (.iconst 0, 1) := by decide +kernel
theorem dX5_times_23 : decode cX5_times 23 = .ok (.iconst 2, 1) := by decide +kernel
theorem dX5_times_24 : decode cX5_times 24 = .ok (.invokestatic 122, 3) := by decide +kernel
theorem dX5_times_27 : decode cX5_times 27 = .ok (.ifCond .ne 10, 3) := by decide +kernel
theorem dX5_times_30 : decode cX5_times 30 = .ok (.aload_n 0, 1) := by decide +kernel
theorem dX5_times_31 : decode cX5_times 31 = .ok (.bipush (-2), 2) := by decide +kernel
theorem dX5_times_33 : decode cX5_times 33 = .ok (.invokevirtual 75, 3) := by decide +kernel
theorem dX5_times_36 : decode cX5_times 36 = .ok (.ireturn, 1) := by decide +kernel
theorem dX5_times_37 : decode cX5_times 37 = .ok (.aload_n 0, 1) := by decide +kernel
theorem dX5_times_38 : decode cX5_times 38 = .ok (.getfield 26, 3) := by decide +kernel
theorem dX5_times_41 : decode cX5_times 41 = .ok (.aload_n 0, 1) := by decide +kernel
theorem dX5_times_42 : decode cX5_times 42 = .ok (.getfield 12, 3) := by decide +kernel
theorem dX5_times_45 : decode cX5_times 45 = .ok (.iload_n 1, 1) := by decide +kernel
theorem dX5_times_46 : decode cX5_times 46 = .ok (.iload_n 2, 1) := by decide +kernel
theorem dX5_times_47 : decode cX5_times 47 = .ok (.invokevirtual 114, 3) := by decide +kernel
theorem dX5_times_50 : decode cX5_times 50 = .ok (.aload_n 0, 1) := by decide +kernel
theorem dX5_times_51 : decode cX5_times 51 = .ok (.getfield 26, 3) := by decide +kernel
theorem dX5_times_54 : decode cX5_times 54 = .ok (.getfield 118, 3) := by decide +kernel
theorem dX5_times_57 : decode cX5_times 57 = .ok (.iload_n 3, 1) := by decide +kernel
theorem dX5_times_58 : decode cX5_times 58 = .ok (.laload, 1) := by decide +kernel
theorem dX5_times_59 : decode cX5_times 59 = .ok (.lstore 5, 2) := by decide +kernel
theorem dX5_times_61 : decode cX5_times 61 = .ok (.iload 4, 2) := by decide +kernel
theorem dX5_times_63 : decode cX5_times 63 = .ok (.iconst 2, 1) := by decide +kernel
theorem dX5_times_64 : decode cX5_times 64 = .ok (.if_icmp .ne 9, 3) := by decide +kernel
theorem dX5_times_67 : decode cX5_times 67 = .ok (.lload 5, 2) := by decide +kernel
theorem dX5_times_69 : decode cX5_times 69 = .ok (.invokestatic 126, 3) := by decide +kernel
theorem dX5_times_72 : decode cX5_times 72 = .ok (.ireturn, 1) := by decide +kernel
theorem dX5_times_73 : decode cX5_times 73 = .ok (.lload 5, 2) := by decide +kernel
theorem dX5_times_75 : decode cX5_times 75 = .ok (.lconst 0, 1) := by decide +kernel
theorem dX5_times_76 : decode cX5_times 76 = .ok (.lcmp, 1) := by decide +kernel
theorem dX5_times_77 : decode cX5_times 77 = .ok (.ifCond .ne 5, 3) := by decide +kernel
theorem dX5_times_80 : decode cX5_times 80 = .ok (.iconst (-1), 1) := by decide +kernel
theorem dX5_times_81 : decode cX5_times 81 = .ok (.ireturn, 1) := by decide +kernel
theorem dX5_times_82 : decode cX5_times 82 = .ok (.iload 4, 2) := by decide +kernel
theorem dX5_times_84 : decode cX5_times 84 = .ok (.ifCond .ne 11, 3) := by decide +kernel
theorem dX5_times_87 : decode cX5_times 87 = .ok (.lload 5, 2) := by decide +kernel
theorem dX5_times_89 : decode cX5_times 89 = .ok (.invokestatic 132, 3) := by decide +kernel
theorem dX5_times_92 : decode cX5_times 92 = .ok (.goto 11, 3) := by decide +kernel
theorem dX5_times_95 : decode cX5_times 95 = .ok (.bipush 63, 2) := by decide +kernel
theorem dX5_times_97 : decode cX5_times 97 = .ok (.lload 5, 2) := by decide +kernel
theorem dX5_times_99 : decode cX5_times 99 = .ok (.invokestatic 135, 3) := by decide +kernel
theorem dX5_times_102 : decode cX5_times 102 = .ok (.isub, 1) := by decide +kernel
theorem dX5_times_103 : decode cX5_times 103 = .ok (.ireturn, 1) := by decide +kernel
set_option maxRecDepth 20000 in
theorem ggX5_leaves_X0_hasShaft : GoodIn wsX5_leaves wsX0_hasShaft := goodIn_r _ [6, 7, 8, 9, 10, 49, 50, 51, 52, 53, 54, 55, 56, 57, 58, 59, 60, 61, 62] (by decide +kernel) (by decide +kernel)
set_option maxRecDepth 20000 in
theorem gX5_leaves_X0_hasShaft : GoodIn wsX5_leaves (wsV RX5 71 RX0 yX0_hasShaft wsX0_hasShaft) := goodIn_app (goodIn_of _ (by decide +kernel)) ggX5_leaves_X0_hasShaft
set_option maxRecDepth 20000 in
theorem ggX5_leaves_X5_within : GoodIn wsX5_leaves wsX5_within := goodIn_r _ [10] (by decide +kernel) (by decide +kernel)
set_option maxRecDepth 20000 in
theorem gX5_leaves_X5_within : GoodIn wsX5_leaves (va_wsS RX5 122 yX5_within wsX5_within) := goodIn_app (goodIn_of _ (by decide +kernel)) ggX5_leaves_X5_within
set_option maxRecDepth 20000 in
theorem ggX5_leaves_X5_refused : GoodIn wsX5_leaves wsX5_refused := goodIn_r _ [15, 16, 17, 18, 39, 40, 41, 42, 43, 44, 45, 46, 47, 48] (by decide +kernel) (by decide +kernel)
set_option maxRecDepth 20000 in
theorem gX5_leaves_X5_refused : GoodIn wsX5_leaves (wsV RX5 75 RX5 yX5_refused wsX5_refused) := goodIn_app (goodIn_of _ (by decide +kernel)) ggX5_leaves_X5_refused
set_option maxRecDepth 20000 in
theorem ggX5_leaves_X0_leaving : GoodIn wsX5_leaves wsX0_leaving := goodIn_r _ [22, 23, 24, 25, 26, 27, 28, 5, 29, 49, 50, 51, 52, 53, 54, 55, 56, 57, 58, 59, 60, 61, 62] (by decide +kernel) (by decide +kernel)
set_option maxRecDepth 20000 in
theorem gX5_leaves_X0_leaving : GoodIn wsX5_leaves (wsV RX5 138 RX0 yX0_leaving wsX0_leaving) := goodIn_app (goodIn_of _ (by decide +kernel)) ggX5_leaves_X0_leaving
set_option maxRecDepth 20000 in
theorem ggX5_leaves_J13_numberOfTrailingZeros_95d88 : GoodIn wsX5_leaves wsJ13_numberOfTrailingZeros_95d88 := goodIn_r _ [33, 34, 35, 36, 37, 38] (by decide +kernel) (by decide +kernel)
set_option maxRecDepth 20000 in
theorem gX5_leaves_J13_numberOfTrailingZeros_95d88 : GoodIn wsX5_leaves (va_wsS RX5 132 yJ13_numberOfTrailingZeros_95d88 wsJ13_numberOfTrailingZeros_95d88) := goodIn_app (goodIn_of _ (by decide +kernel)) ggX5_leaves_J13_numberOfTrailingZeros_95d88
theorem dX5_leaves_0 : decode cX5_leaves 0 = .ok (.aload_n 0, 1) := by decide +kernel
theorem dX5_leaves_1 : decode cX5_leaves 1 = .ok (.getfield 12, 3) := by decide +kernel
theorem dX5_leaves_4 : decode cX5_leaves 4 = .ok (.iload_n 1, 1) := by decide +kernel
theorem dX5_leaves_5 : decode cX5_leaves 5 = .ok (.invokevirtual 71, 3) := by decide +kernel
theorem dX5_leaves_8 : decode cX5_leaves 8 = .ok (.ifCond .eq 13, 3) := by decide +kernel
theorem dX5_leaves_11 : decode cX5_leaves 11 = .ok (.iload_n 2, 1) := by decide +kernel
theorem dX5_leaves_12 : decode cX5_leaves 12 = .ok (.iconst 0, 1) := by decide +kernel
theorem dX5_leaves_13 : decode cX5_leaves 13 = .ok (.bipush 62, 2) := by decide +kernel
theorem dX5_leaves_15 : decode cX5_leaves 15 = .ok (.invokestatic 122, 3) := by decide +kernel
theorem dX5_leaves_18 : decode cX5_leaves 18 = .ok (.ifCond .ne 10, 3) := by decide +kernel
theorem dX5_leaves_21 : decode cX5_leaves 21 = .ok (.aload_n 0, 1) := by decide +kernel
theorem dX5_leaves_22 : decode cX5_leaves 22 = .ok (.bipush (-2), 2) := by decide +kernel
theorem dX5_leaves_24 : decode cX5_leaves 24 = .ok (.invokevirtual 75, 3) := by decide +kernel
theorem dX5_leaves_27 : decode cX5_leaves 27 = .ok (.ireturn, 1) := by decide +kernel
theorem dX5_leaves_28 : decode cX5_leaves 28 = .ok (.aload_n 0, 1) := by decide +kernel
theorem dX5_leaves_29 : decode cX5_leaves 29 = .ok (.getfield 12, 3) := by decide +kernel
theorem dX5_leaves_32 : decode cX5_leaves 32 = .ok (.iload_n 1, 1) := by decide +kernel
theorem dX5_leaves_33 : decode cX5_leaves 33 = .ok (.lconst 1, 1) := by decide +kernel
theorem dX5_leaves_34 : decode cX5_leaves 34 = .ok (.iload_n 2, 1) := by decide +kernel
theorem dX5_leaves_35 : decode cX5_leaves 35 = .ok (.lshl, 1) := by decide +kernel
theorem dX5_leaves_36 : decode cX5_leaves 36 = .ok (.invokevirtual 138, 3) := by decide +kernel
theorem dX5_leaves_39 : decode cX5_leaves 39 = .ok (.lstore_n 3, 1) := by decide +kernel
theorem dX5_leaves_40 : decode cX5_leaves 40 = .ok (.lload_n 3, 1) := by decide +kernel
theorem dX5_leaves_41 : decode cX5_leaves 41 = .ok (.lconst 0, 1) := by decide +kernel
theorem dX5_leaves_42 : decode cX5_leaves 42 = .ok (.lcmp, 1) := by decide +kernel
theorem dX5_leaves_43 : decode cX5_leaves 43 = .ok (.ifCond .ne 7, 3) := by decide +kernel
theorem dX5_leaves_46 : decode cX5_leaves 46 = .ok (.iconst (-1), 1) := by decide +kernel
theorem dX5_leaves_47 : decode cX5_leaves 47 = .ok (.goto 7, 3) := by decide +kernel
theorem dX5_leaves_50 : decode cX5_leaves 50 = .ok (.lload_n 3, 1) := by decide +kernel
theorem dX5_leaves_51 : decode cX5_leaves 51 = .ok (.invokestatic 132, 3) := by decide +kernel
theorem dX5_leaves_54 : decode cX5_leaves 54 = .ok (.ireturn, 1) := by decide +kernel
set_option maxRecDepth 20000 in
theorem ggX5_sight_X3_mark : GoodIn wsX5_sight wsX3_mark := goodIn_r _ [7, 8, 9, 10, 11, 12, 13, 14, 15, 16, 17, 18, 19, 20, 21, 22, 23, 24, 25, 26, 27, 28, 29, 30, 31, 32, 33, 34, 35, 36, 37, 38, 39, 83, 84, 85, 86, 87, 88, 89, 90, 91, 92, 93, 94, 95, 96, 97, 98] (by decide +kernel) (by decide +kernel)
set_option maxRecDepth 20000 in
theorem gX5_sight_X3_mark : GoodIn wsX5_sight (wsV RX5 48 RX3 yX3_mark wsX3_mark) := goodIn_app (goodIn_of _ (by decide +kernel)) ggX5_sight_X3_mark
set_option maxRecDepth 20000 in
theorem ggX5_sight_X0_addSight : GoodIn wsX5_sight wsX0_addSight := goodIn_r _ [43, 25, 26, 27, 28, 44, 45, 46, 47, 48, 49, 13, 50, 15, 85, 86, 87, 88, 89, 90, 91, 92, 93, 94, 95, 96, 97, 98] (by decide +kernel) (by decide +kernel)
set_option maxRecDepth 20000 in
theorem gX5_sight_X0_addSight : GoodIn wsX5_sight (wsV RX5 142 RX0 yX0_addSight wsX0_addSight) := goodIn_app (goodIn_of _ (by decide +kernel)) ggX5_sight_X0_addSight
set_option maxRecDepth 20000 in
theorem ggX5_sight_X5_settled : GoodIn wsX5_sight wsX5_settled := goodIn_r _ [54, 1, 55, 56, 57, 58, 45, 59, 60, 61, 62, 63, 64, 65, 6, 66, 9, 8, 67, 68, 69, 70, 71, 72, 73, 74, 75, 76, 77, 78, 79, 80, 81, 82, 83, 84, 99, 100, 101] (by decide +kernel) (by decide +kernel)
set_option maxRecDepth 20000 in
theorem gX5_sight_X5_settled : GoodIn wsX5_sight (wsV RX5 56 RX5 yX5_settled wsX5_settled) := goodIn_app (goodIn_of _ (by decide +kernel)) ggX5_sight_X5_settled
theorem dX5_sight_0 : decode cX5_sight 0 = .ok (.aload_n 0, 1) := by decide +kernel
theorem dX5_sight_1 : decode cX5_sight 1 = .ok (.getfield 19, 3) := by decide +kernel
theorem dX5_sight_4 : decode cX5_sight 4 = .ok (.aload_n 0, 1) := by decide +kernel
theorem dX5_sight_5 : decode cX5_sight 5 = .ok (.getfield 12, 3) := by decide +kernel
theorem dX5_sight_8 : decode cX5_sight 8 = .ok (.invokevirtual 48, 3) := by decide +kernel
theorem dX5_sight_11 : decode cX5_sight 11 = .ok (.aload_n 0, 1) := by decide +kernel
theorem dX5_sight_12 : decode cX5_sight 12 = .ok (.aload_n 0, 1) := by decide +kernel
theorem dX5_sight_13 : decode cX5_sight 13 = .ok (.getfield 12, 3) := by decide +kernel
theorem dX5_sight_16 : decode cX5_sight 16 = .ok (.iload_n 1, 1) := by decide +kernel
theorem dX5_sight_17 : decode cX5_sight 17 = .ok (.iload_n 2, 1) := by decide +kernel
theorem dX5_sight_18 : decode cX5_sight 18 = .ok (.iload_n 3, 1) := by decide +kernel
theorem dX5_sight_19 : decode cX5_sight 19 = .ok (.invokevirtual 142, 3) := by decide +kernel
theorem dX5_sight_22 : decode cX5_sight 22 = .ok (.invokevirtual 56, 3) := by decide +kernel
theorem dX5_sight_25 : decode cX5_sight 25 = .ok (.ireturn, 1) := by decide +kernel
set_option maxRecDepth 20000 in
theorem ggX5_forget_X3_mark : GoodIn wsX5_forget wsX3_mark := goodIn_r _ [7, 8, 9, 10, 11, 12, 13, 14, 15, 16, 17, 18, 19, 20, 21, 22, 23, 24, 25, 26, 27, 28, 29, 30, 31, 32, 33, 34, 35, 36, 37, 38, 39, 77, 78, 79, 80, 81, 82, 83, 84, 85, 86, 87, 88, 89, 90, 91, 92] (by decide +kernel) (by decide +kernel)
set_option maxRecDepth 20000 in
theorem gX5_forget_X3_mark : GoodIn wsX5_forget (wsV RX5 48 RX3 yX3_mark wsX3_mark) := goodIn_app (goodIn_of _ (by decide +kernel)) ggX5_forget_X3_mark
set_option maxRecDepth 20000 in
theorem ggX5_forget_X0_dropSights : GoodIn wsX5_forget wsX0_dropSights := goodIn_r _ [43, 25, 79, 80, 81, 82, 83, 84, 85, 86, 87, 88, 89, 90, 91, 92] (by decide +kernel) (by decide +kernel)
set_option maxRecDepth 20000 in
theorem gX5_forget_X0_dropSights : GoodIn wsX5_forget (wsV RX5 145 RX0 yX0_dropSights wsX0_dropSights) := goodIn_app (goodIn_of _ (by decide +kernel)) ggX5_forget_X0_dropSights
set_option maxRecDepth 20000 in
theorem ggX5_forget_X5_settled : GoodIn wsX5_forget wsX5_settled := goodIn_r _ [48, 1, 49, 50, 51, 52, 47, 53, 54, 55, 56, 57, 58, 59, 6, 60, 9, 8, 61, 62, 63, 64, 65, 66, 67, 68, 69, 70, 71, 72, 73, 74, 75, 76, 77, 78, 93, 94, 95] (by decide +kernel) (by decide +kernel)
set_option maxRecDepth 20000 in
theorem gX5_forget_X5_settled : GoodIn wsX5_forget (wsV RX5 56 RX5 yX5_settled wsX5_settled) := goodIn_app (goodIn_of _ (by decide +kernel)) ggX5_forget_X5_settled
theorem dX5_forget_0 : decode cX5_forget 0 = .ok (.aload_n 0, 1) := by decide +kernel
theorem dX5_forget_1 : decode cX5_forget 1 = .ok (.getfield 19, 3) := by decide +kernel
theorem dX5_forget_4 : decode cX5_forget 4 = .ok (.aload_n 0, 1) := by decide +kernel
theorem dX5_forget_5 : decode cX5_forget 5 = .ok (.getfield 12, 3) := by decide +kernel
theorem dX5_forget_8 : decode cX5_forget 8 = .ok (.invokevirtual 48, 3) := by decide +kernel
theorem dX5_forget_11 : decode cX5_forget 11 = .ok (.aload_n 0, 1) := by decide +kernel
theorem dX5_forget_12 : decode cX5_forget 12 = .ok (.aload_n 0, 1) := by decide +kernel
theorem dX5_forget_13 : decode cX5_forget 13 = .ok (.getfield 12, 3) := by decide +kernel
theorem dX5_forget_16 : decode cX5_forget 16 = .ok (.invokevirtual 145, 3) := by decide +kernel
theorem dX5_forget_19 : decode cX5_forget 19 = .ok (.invokevirtual 56, 3) := by decide +kernel
theorem dX5_forget_22 : decode cX5_forget 22 = .ok (.ireturn, 1) := by decide +kernel
set_option maxRecDepth 20000 in
theorem ggX5_fits_X5_isStart : GoodIn wsX5_fits wsX5_isStart := goodIn_r _ [7, 2, 8, 9, 10, 11, 12, 13, 14, 6, 15, 16, 67, 68, 69, 70, 71, 72, 73, 74, 75, 76, 77, 78, 79, 80, 81, 82, 83, 84, 85, 86, 87, 88, 89, 90] (by decide +kernel) (by decide +kernel)
set_option maxRecDepth 20000 in
theorem gX5_fits_X5_isStart : GoodIn wsX5_fits (wsV RX5 110 RX5 yX5_isStart wsX5_isStart) := goodIn_app (goodIn_of _ (by decide +kernel)) ggX5_fits_X5_isStart
set_option maxRecDepth 20000 in
theorem ggX5_fits_X5_refused : GoodIn wsX5_fits wsX5_refused := goodIn_r _ [20, 21, 22, 23, 67, 68, 69, 70, 71, 72, 73, 74, 75, 76] (by decide +kernel) (by decide +kernel)
set_option maxRecDepth 20000 in
theorem gX5_fits_X5_refused : GoodIn wsX5_fits (wsV RX5 75 RX5 yX5_refused wsX5_refused) := goodIn_app (goodIn_of _ (by decide +kernel)) ggX5_fits_X5_refused
set_option maxRecDepth 20000 in
theorem ggX5_fits_X1_walk : GoodIn wsX5_fits wsX1_walk := goodIn_r _ [28, 29, 30, 31, 32, 33, 34, 35, 36, 37, 38, 39, 40, 11, 41, 42, 43, 44, 45, 46, 47, 48, 49, 50, 51, 52, 53, 54, 91, 92, 93, 77, 78, 79, 80, 81, 82, 83, 84, 85, 86, 87, 88, 89, 90] (by decide +kernel) (by decide +kernel)
set_option maxRecDepth 20000 in
theorem gX5_fits_X1_walk : GoodIn wsX5_fits (wsV RX5 114 RX1 yX1_walk wsX1_walk) := goodIn_app (goodIn_of _ (by decide +kernel)) ggX5_fits_X1_walk
set_option maxRecDepth 20000 in
theorem ggX5_fits_X1_agrees : GoodIn wsX5_fits wsX1_agrees := goodIn_r _ [58, 59, 60, 61, 62, 27, 63, 29, 64, 65, 66, 77, 78, 79, 80, 81, 82, 83, 84, 85, 86, 87, 88, 89, 90, 91, 92, 93] (by decide +kernel) (by decide +kernel)
set_option maxRecDepth 20000 in
theorem gX5_fits_X1_agrees : GoodIn wsX5_fits (wsV RX5 149 RX1 yX1_agrees wsX1_agrees) := goodIn_app (goodIn_of _ (by decide +kernel)) ggX5_fits_X1_agrees
theorem dX5_fits_0 : decode cX5_fits 0 = .ok (.aload_n 0, 1) := by decide +kernel
theorem dX5_fits_1 : decode cX5_fits 1 = .ok (.iload_n 1, 1) := by decide +kernel
theorem dX5_fits_2 : decode cX5_fits 2 = .ok (.iload_n 2, 1) := by decide +kernel
theorem dX5_fits_3 : decode cX5_fits 3 = .ok (.invokevirtual 110, 3) := by decide +kernel
theorem dX5_fits_6 : decode cX5_fits 6 = .ok (.ifCond .ne 10, 3) := by decide +kernel
theorem dX5_fits_9 : decode cX5_fits 9 = .ok (.aload_n 0, 1) := by decide +kernel
theorem dX5_fits_10 : decode cX5_fits 10 = .ok (.bipush (-2), 2) := by decide +kernel
theorem dX5_fits_12 : decode cX5_fits 12 = .ok (.invokevirtual 75, 3) := by decide +kernel
theorem dX5_fits_15 : decode cX5_fits 15 = .ok (.ireturn, 1) := by decide +kernel
theorem dX5_fits_16 : decode cX5_fits 16 = .ok (.aload_n 0, 1) := by decide +kernel
theorem dX5_fits_17 : decode cX5_fits 17 = .ok (.getfield 26, 3) := by decide +kernel
theorem dX5_fits_20 : decode cX5_fits 20 = .ok (.aload_n 0, 1) := by decide +kernel
theorem dX5_fits_21 : decode cX5_fits 21 = .ok (.getfield 12, 3) := by decide +kernel
theorem dX5_fits_24 : decode cX5_fits 24 = .ok (.iload_n 1, 1) := by decide +kernel
theorem dX5_fits_25 : decode cX5_fits 25 = .ok (.iload_n 2, 1) := by decide +kernel
theorem dX5_fits_26 : decode cX5_fits 26 = .ok (.invokevirtual 114, 3) := by decide +kernel
theorem dX5_fits_29 : decode cX5_fits 29 = .ok (.aload_n 0, 1) := by decide +kernel
theorem dX5_fits_30 : decode cX5_fits 30 = .ok (.getfield 26, 3) := by decide +kernel
theorem dX5_fits_33 : decode cX5_fits 33 = .ok (.aload_n 0, 1) := by decide +kernel
theorem dX5_fits_34 : decode cX5_fits 34 = .ok (.getfield 12, 3) := by decide +kernel
theorem dX5_fits_37 : decode cX5_fits 37 = .ok (.invokevirtual 149, 3) := by decide +kernel
theorem dX5_fits_40 : decode cX5_fits 40 = .ok (.ifCond .eq 7, 3) := by decide +kernel
theorem dX5_fits_43 : decode cX5_fits 43 = .ok (.iconst 1, 1) := by decide +kernel
theorem dX5_fits_44 : decode cX5_fits 44 = .ok (.goto 4, 3) := by decide +kernel
theorem dX5_fits_47 : decode cX5_fits 47 = .ok (.iconst 0, 1) := by decide +kernel
theorem dX5_fits_48 : decode cX5_fits 48 = .ok (.ireturn, 1) := by decide +kernel
set_option maxRecDepth 20000 in
theorem ggX5_when_X0_hasShaft : GoodIn wsX5_when wsX0_hasShaft := goodIn_r _ [7, 8, 9, 10, 11, 78, 79, 80, 81, 82, 83, 84, 85, 86, 87, 88, 89, 90, 91] (by decide +kernel) (by decide +kernel)
set_option maxRecDepth 20000 in
theorem gX5_when_X0_hasShaft : GoodIn wsX5_when (wsV RX5 71 RX0 yX0_hasShaft wsX0_hasShaft) := goodIn_app (goodIn_of _ (by decide +kernel)) ggX5_when_X0_hasShaft
set_option maxRecDepth 20000 in
theorem ggX5_when_X5_refused : GoodIn wsX5_when wsX5_refused := goodIn_r _ [15, 16, 17, 18, 68, 69, 70, 71, 72, 73, 74, 75, 76, 77] (by decide +kernel) (by decide +kernel)
set_option maxRecDepth 20000 in
theorem gX5_when_X5_refused : GoodIn wsX5_when (wsV RX5 75 RX5 yX5_refused wsX5_refused) := goodIn_app (goodIn_of _ (by decide +kernel)) ggX5_when_X5_refused
set_option maxRecDepth 20000 in
theorem ggX5_when_X1_startsAt : GoodIn wsX5_when wsX1_startsAt := goodIn_r _ [23, 24, 25, 26, 27, 28, 22, 29, 30, 31, 32, 33, 34, 35, 36, 37, 38, 39, 40, 41, 6, 42, 43, 44, 45, 46, 47, 48, 49, 50, 51, 52, 53, 54, 55, 56, 57, 58, 59, 60, 61, 62, 63, 64, 65, 66, 67, 92, 93, 94, 78, 79, 80, 81, 82, 83, 84, 85, 86, 87, 88, 89, 90, 91] (by decide +kernel) (by decide +kernel)
set_option maxRecDepth 20000 in
theorem gX5_when_X1_startsAt : GoodIn wsX5_when (wsV RX5 153 RX1 yX1_startsAt wsX1_startsAt) := goodIn_app (goodIn_of _ (by decide +kernel)) ggX5_when_X1_startsAt
theorem dX5_when_0 : decode cX5_when 0 = .ok (.aload_n 0, 1) := by decide +kernel
theorem dX5_when_1 : decode cX5_when 1 = .ok (.getfield 12, 3) := by decide +kernel
theorem dX5_when_4 : decode cX5_when 4 = .ok (.iload_n 1, 1) := by decide +kernel
theorem dX5_when_5 : decode cX5_when 5 = .ok (.invokevirtual 71, 3) := by decide +kernel
theorem dX5_when_8 : decode cX5_when 8 = .ok (.ifCond .ne 10, 3) := by decide +kernel
theorem dX5_when_11 : decode cX5_when 11 = .ok (.aload_n 0, 1) := by decide +kernel
theorem dX5_when_12 : decode cX5_when 12 = .ok (.bipush (-2), 2) := by decide +kernel
theorem dX5_when_14 : decode cX5_when 14 = .ok (.invokevirtual 75, 3) := by decide +kernel
theorem dX5_when_17 : decode cX5_when 17 = .ok (.ireturn, 1) := by decide +kernel
theorem dX5_when_18 : decode cX5_when 18 = .ok (.aload_n 0, 1) := by decide +kernel
theorem dX5_when_19 : decode cX5_when 19 = .ok (.getfield 26, 3) := by decide +kernel
theorem dX5_when_22 : decode cX5_when 22 = .ok (.aload_n 0, 1) := by decide +kernel
theorem dX5_when_23 : decode cX5_when 23 = .ok (.getfield 12, 3) := by decide +kernel
theorem dX5_when_26 : decode cX5_when 26 = .ok (.iload_n 1, 1) := by decide +kernel
theorem dX5_when_27 : decode cX5_when 27 = .ok (.invokevirtual 153, 3) := by decide +kernel
theorem dX5_when_30 : decode cX5_when 30 = .ok (.ireturn, 1) := by decide +kernel
set_option maxRecDepth 20000 in
theorem ggX5_suspects_X1_suspicious : GoodIn wsX5_suspects wsX1_suspicious := goodIn_r _ [7, 8, 9, 10, 11, 6, 12, 13, 14, 15, 16, 17, 18, 19, 20, 21, 22, 23, 24, 25, 26, 27, 28, 29, 30, 31, 32, 33, 34, 35, 36, 37, 38, 39, 40, 41, 42, 43, 44, 45, 46, 47, 48, 49, 50, 51, 52, 53, 54, 55, 56, 57, 68, 69, 70, 71, 72, 73, 74, 75, 76, 77, 78, 79, 80, 81, 82, 83, 84] (by decide +kernel) (by decide +kernel)
set_option maxRecDepth 20000 in
theorem gX5_suspects_X1_suspicious : GoodIn wsX5_suspects (wsV RX5 157 RX1 yX1_suspicious wsX1_suspicious) := goodIn_app (goodIn_of _ (by decide +kernel)) ggX5_suspects_X1_suspicious
theorem dX5_suspects_0 : decode cX5_suspects 0 = .ok (.aload_n 0, 1) := by decide +kernel
theorem dX5_suspects_1 : decode cX5_suspects 1 = .ok (.getfield 26, 3) := by decide +kernel
theorem dX5_suspects_4 : decode cX5_suspects 4 = .ok (.aload_n 0, 1) := by decide +kernel
theorem dX5_suspects_5 : decode cX5_suspects 5 = .ok (.getfield 12, 3) := by decide +kernel
theorem dX5_suspects_8 : decode cX5_suspects 8 = .ok (.invokevirtual 157, 3) := by decide +kernel
theorem dX5_suspects_11 : decode cX5_suspects 11 = .ok (.ireturn, 1) := by decide +kernel
set_option maxRecDepth 20000 in
theorem ggX5_next_X5_within : GoodIn wsX5_next wsX5_within := goodIn_r _ [7] (by decide +kernel) (by decide +kernel)
set_option maxRecDepth 20000 in
theorem gX5_next_X5_within : GoodIn wsX5_next (va_wsS RX5 122 yX5_within wsX5_within) := goodIn_app (goodIn_of _ (by decide +kernel)) ggX5_next_X5_within
set_option maxRecDepth 20000 in
theorem ggX5_next_X5_refused : GoodIn wsX5_next wsX5_refused := goodIn_r _ [11, 12, 13, 14, 94, 95, 96, 97, 98, 99, 100, 101, 102, 103] (by decide +kernel) (by decide +kernel)
set_option maxRecDepth 20000 in
theorem gX5_next_X5_refused : GoodIn wsX5_next (wsV RX5 75 RX5 yX5_refused wsX5_refused) := goodIn_app (goodIn_of _ (by decide +kernel)) ggX5_next_X5_refused
set_option maxRecDepth 20000 in
theorem ggX5_next_X1_suspicious : GoodIn wsX5_next wsX1_suspicious := goodIn_r _ [19, 20, 21, 22, 23, 18, 24, 25, 26, 27, 28, 29, 30, 31, 32, 33, 34, 35, 36, 37, 38, 39, 40, 41, 42, 43, 44, 45, 46, 47, 48, 49, 50, 51, 52, 53, 54, 55, 56, 57, 58, 59, 60, 61, 62, 63, 64, 65, 66, 67, 68, 69, 104, 105, 106, 107, 108, 109, 110, 111, 112, 113, 114, 115, 116, 117, 118, 119, 120] (by decide +kernel) (by decide +kernel)
set_option maxRecDepth 20000 in
theorem gX5_next_X1_suspicious : GoodIn wsX5_next (wsV RX5 157 RX1 yX1_suspicious wsX1_suspicious) := goodIn_app (goodIn_of _ (by decide +kernel)) ggX5_next_X1_suspicious
set_option maxRecDepth 20000 in
theorem ggX5_next_X0_above : GoodIn wsX5_next wsX0_above := goodIn_r _ [73, 74, 75, 76, 77, 43, 78, 79, 104, 105, 106, 107, 108, 109, 110, 111, 112, 113, 114, 115, 116, 117] (by decide +kernel) (by decide +kernel)
set_option maxRecDepth 20000 in
theorem gX5_next_X0_above : GoodIn wsX5_next (wsV RX5 98 RX0 yX0_above wsX0_above) := goodIn_app (goodIn_of _ (by decide +kernel)) ggX5_next_X0_above
set_option maxRecDepth 20000 in
theorem ggX5_next_X5_largerPart : GoodIn wsX5_next wsX5_largerPart := goodIn_r _ [82, 83, 84, 85, 86, 87, 88, 89, 90, 91, 92, 93] (by decide +kernel) (by decide +kernel)
set_option maxRecDepth 20000 in
theorem gX5_next_X5_largerPart : GoodIn wsX5_next (va_wsS RX5 165 yX5_largerPart wsX5_largerPart) := goodIn_app (goodIn_of _ (by decide +kernel)) ggX5_next_X5_largerPart
theorem dX5_next_0 : decode cX5_next 0 = .ok (.iload_n 1, 1) := by decide +kernel
theorem dX5_next_1 : decode cX5_next 1 = .ok (.iconst 0, 1) := by decide +kernel
theorem dX5_next_2 : decode cX5_next 2 = .ok (.iconst 1, 1) := by decide +kernel
theorem dX5_next_3 : decode cX5_next 3 = .ok (.invokestatic 122, 3) := by decide +kernel
theorem dX5_next_6 : decode cX5_next 6 = .ok (.ifCond .ne 10, 3) := by decide +kernel
theorem dX5_next_9 : decode cX5_next 9 = .ok (.aload_n 0, 1) := by decide +kernel
theorem dX5_next_10 : decode cX5_next 10 = .ok (.bipush (-2), 2) := by decide +kernel
theorem dX5_next_12 : decode cX5_next 12 = .ok (.invokevirtual 75, 3) := by decide +kernel
theorem dX5_next_15 : decode cX5_next 15 = .ok (.ireturn, 1) := by decide +kernel
theorem dX5_next_16 : decode cX5_next 16 = .ok (.aload_n 0, 1) := by decide +kernel
theorem dX5_next_17 : decode cX5_next 17 = .ok (.getfield 26, 3) := by decide +kernel
theorem dX5_next_20 : decode cX5_next 20 = .ok (.aload_n 0, 1) := by decide +kernel
theorem dX5_next_21 : decode cX5_next 21 = .ok (.getfield 12, 3) := by decide +kernel
theorem dX5_next_24 : decode cX5_next 24 = .ok (.invokevirtual 157, 3) := by decide +kernel
theorem dX5_next_27 : decode cX5_next 27 = .ok (.istore_n 2, 1) := by decide +kernel
theorem dX5_next_28 : decode cX5_next 28 = .ok (.iconst (-1), 1) := by decide +kernel
theorem dX5_next_29 : decode cX5_next 29 = .ok (.istore_n 3, 1) := by decide +kernel
theorem dX5_next_30 : decode cX5_next 30 = .ok (.iconst (-1), 1) := by decide +kernel
theorem dX5_next_31 : decode cX5_next 31 = .ok (.istore 4, 2) := by decide +kernel
theorem dX5_next_33 : decode cX5_next 33 = .ok (.iconst 0, 1) := by decide +kernel
theorem dX5_next_34 : decode cX5_next 34 = .ok (.istore 5, 2) := by decide +kernel
theorem dX5_next_36 : decode cX5_next 36 = .ok (.iload 5, 2) := by decide +kernel
theorem dX5_next_38 : decode cX5_next 38 = .ok (.aload_n 0, 1) := by decide +kernel
theorem dX5_next_39 : decode cX5_next 39 = .ok (.getfield 12, 3) := by decide +kernel
theorem dX5_next_42 : decode cX5_next 42 = .ok (.getfield 161, 3) := by decide +kernel
theorem dX5_next_45 : decode cX5_next 45 = .ok (.if_icmp .ge 43, 3) := by decide +kernel
theorem dX5_next_48 : decode cX5_next 48 = .ok (.iload_n 2, 1) := by decide +kernel
theorem dX5_next_49 : decode cX5_next 49 = .ok (.aload_n 0, 1) := by decide +kernel
theorem dX5_next_50 : decode cX5_next 50 = .ok (.getfield 12, 3) := by decide +kernel
theorem dX5_next_53 : decode cX5_next 53 = .ok (.iload 5, 2) := by decide +kernel
theorem dX5_next_55 : decode cX5_next 55 = .ok (.invokevirtual 98, 3) := by decide +kernel
theorem dX5_next_58 : decode cX5_next 58 = .ok (.invokestatic 165, 3) := by decide +kernel
theorem dX5_next_61 : decode cX5_next 61 = .ok (.istore 6, 2) := by decide +kernel
theorem dX5_next_63 : decode cX5_next 63 = .ok (.iload_n 3, 1) := by decide +kernel
theorem dX5_next_64 : decode cX5_next 64 = .ok (.iconst (-1), 1) := by decide +kernel
theorem dX5_next_65 : decode cX5_next 65 = .ok (.if_icmp .eq 10, 3) := by decide +kernel
theorem dX5_next_68 : decode cX5_next 68 = .ok (.iload 6, 2) := by decide +kernel
theorem dX5_next_70 : decode cX5_next 70 = .ok (.iload 4, 2) := by decide +kernel
theorem dX5_next_72 : decode cX5_next 72 = .ok (.if_icmp .ge 10, 3) := by decide +kernel
theorem dX5_next_75 : decode cX5_next 75 = .ok (.iload 5, 2) := by decide +kernel
theorem dX5_next_77 : decode cX5_next 77 = .ok (.istore_n 3, 1) := by decide +kernel
theorem dX5_next_78 : decode cX5_next 78 = .ok (.iload 6, 2) := by decide +kernel
theorem dX5_next_80 : decode cX5_next 80 = .ok (.istore 4, 2) := by decide +kernel
theorem dX5_next_82 : decode cX5_next 82 = .ok (.iinc 5 1, 3) := by decide +kernel
theorem dX5_next_85 : decode cX5_next 85 = .ok (.goto (-49), 3) := by decide +kernel
theorem dX5_next_88 : decode cX5_next 88 = .ok (.iload_n 1, 1) := by decide +kernel
theorem dX5_next_89 : decode cX5_next 89 = .ok (.ifCond .ne 7, 3) := by decide +kernel
theorem dX5_next_92 : decode cX5_next 92 = .ok (.iload_n 3, 1) := by decide +kernel
theorem dX5_next_93 : decode cX5_next 93 = .ok (.goto 5, 3) := by decide +kernel
theorem dX5_next_96 : decode cX5_next 96 = .ok (.iload 4, 2) := by decide +kernel
theorem dX5_next_98 : decode cX5_next 98 = .ok (.ireturn, 1) := by decide +kernel
set_option maxRecDepth 20000 in
theorem ggX5_alike_X5_within : GoodIn wsX5_alike wsX5_within := goodIn_r _ [7] (by decide +kernel) (by decide +kernel)
set_option maxRecDepth 20000 in
theorem gX5_alike_X5_within : GoodIn wsX5_alike (va_wsS RX5 122 yX5_within wsX5_within) := goodIn_app (goodIn_of _ (by decide +kernel)) ggX5_alike_X5_within
set_option maxRecDepth 20000 in
theorem ggX5_alike_X5_refused : GoodIn wsX5_alike wsX5_refused := goodIn_r _ [11, 12, 13, 14, 28, 29, 30, 31, 32, 33, 34, 35, 36, 37] (by decide +kernel) (by decide +kernel)
set_option maxRecDepth 20000 in
theorem gX5_alike_X5_refused : GoodIn wsX5_alike (wsV RX5 75 RX5 yX5_refused wsX5_refused) := goodIn_app (goodIn_of _ (by decide +kernel)) ggX5_alike_X5_refused
set_option maxRecDepth 20000 in
theorem ggX5_alike_X4_compare : GoodIn wsX5_alike wsX4_compare := goodIn_r _ [19, 20, 21, 22, 23, 52, 53, 38, 39, 40, 41, 42, 43, 44, 45, 46, 47, 48, 49, 50, 51] (by decide +kernel) (by decide +kernel)
set_option maxRecDepth 20000 in
theorem gX5_alike_X4_compare : GoodIn wsX5_alike (wsV RX5 168 RX4 yX4_compare wsX4_compare) := goodIn_app (goodIn_of _ (by decide +kernel)) ggX5_alike_X4_compare
set_option maxRecDepth 20000 in
theorem ggX5_alike_X4_untold : GoodIn wsX5_alike wsX4_untold := goodIn_r _ [27, 20, 22, 52, 53] (by decide +kernel) (by decide +kernel)
set_option maxRecDepth 20000 in
theorem gX5_alike_X4_untold : GoodIn wsX5_alike (wsV RX5 171 RX4 yX4_untold wsX4_untold) := goodIn_app (goodIn_of _ (by decide +kernel)) ggX5_alike_X4_untold
theorem dX5_alike_0 : decode cX5_alike 0 = .ok (.iload_n 1, 1) := by decide +kernel
theorem dX5_alike_1 : decode cX5_alike 1 = .ok (.iconst 0, 1) := by decide +kernel
theorem dX5_alike_2 : decode cX5_alike 2 = .ok (.iconst 1, 1) := by decide +kernel
theorem dX5_alike_3 : decode cX5_alike 3 = .ok (.aload_n 0, 1) := by decide +kernel
theorem dX5_alike_4 : decode cX5_alike 4 = .ok (.getfield 12, 3) := by decide +kernel
theorem dX5_alike_7 : decode cX5_alike 7 = .ok (.getfield 161, 3) := by decide +kernel
theorem dX5_alike_10 : decode cX5_alike 10 = .ok (.ishl, 1) := by decide +kernel
theorem dX5_alike_11 : decode cX5_alike 11 = .ok (.iconst 1, 1) := by decide +kernel
theorem dX5_alike_12 : decode cX5_alike 12 = .ok (.isub, 1) := by decide +kernel
theorem dX5_alike_13 : decode cX5_alike 13 = .ok (.invokestatic 122, 3) := by decide +kernel
theorem dX5_alike_16 : decode cX5_alike 16 = .ok (.ifCond .ne 10, 3) := by decide +kernel
theorem dX5_alike_19 : decode cX5_alike 19 = .ok (.aload_n 0, 1) := by decide +kernel
theorem dX5_alike_20 : decode cX5_alike 20 = .ok (.bipush (-2), 2) := by decide +kernel
theorem dX5_alike_22 : decode cX5_alike 22 = .ok (.invokevirtual 75, 3) := by decide +kernel
theorem dX5_alike_25 : decode cX5_alike 25 = .ok (.ireturn, 1) := by decide +kernel
theorem dX5_alike_26 : decode cX5_alike 26 = .ok (.aload_n 0, 1) := by decide +kernel
theorem dX5_alike_27 : decode cX5_alike 27 = .ok (.getfield 33, 3) := by decide +kernel
theorem dX5_alike_30 : decode cX5_alike 30 = .ok (.aload_n 0, 1) := by decide +kernel
theorem dX5_alike_31 : decode cX5_alike 31 = .ok (.getfield 12, 3) := by decide +kernel
theorem dX5_alike_34 : decode cX5_alike 34 = .ok (.invokevirtual 168, 3) := by decide +kernel
theorem dX5_alike_37 : decode cX5_alike 37 = .ok (.aload_n 0, 1) := by decide +kernel
theorem dX5_alike_38 : decode cX5_alike 38 = .ok (.getfield 33, 3) := by decide +kernel
theorem dX5_alike_41 : decode cX5_alike 41 = .ok (.iload_n 1, 1) := by decide +kernel
theorem dX5_alike_42 : decode cX5_alike 42 = .ok (.invokevirtual 171, 3) := by decide +kernel
theorem dX5_alike_45 : decode cX5_alike 45 = .ok (.ireturn, 1) := by decide +kernel
set_option maxRecDepth 20000 in
theorem ggX5_sensors_X5_within : GoodIn wsX5_sensors wsX5_within := goodIn_r _ [7] (by decide +kernel) (by decide +kernel)
set_option maxRecDepth 20000 in
theorem gX5_sensors_X5_within : GoodIn wsX5_sensors (va_wsS RX5 122 yX5_within wsX5_within) := goodIn_app (goodIn_of _ (by decide +kernel)) ggX5_sensors_X5_within
set_option maxRecDepth 20000 in
theorem ggX5_sensors_X5_refused : GoodIn wsX5_sensors wsX5_refused := goodIn_r _ [11, 12, 13, 14, 40, 41, 42, 43, 44, 45, 46, 47, 48, 49] (by decide +kernel) (by decide +kernel)
set_option maxRecDepth 20000 in
theorem gX5_sensors_X5_refused : GoodIn wsX5_sensors (wsV RX5 75 RX5 yX5_refused wsX5_refused) := goodIn_app (goodIn_of _ (by decide +kernel)) ggX5_sensors_X5_refused
set_option maxRecDepth 20000 in
theorem ggX5_sensors_X4_compare : GoodIn wsX5_sensors wsX4_compare := goodIn_r _ [19, 20, 21, 22, 23, 64, 65, 50, 51, 52, 53, 54, 55, 56, 57, 58, 59, 60, 61, 62, 63] (by decide +kernel) (by decide +kernel)
set_option maxRecDepth 20000 in
theorem gX5_sensors_X4_compare : GoodIn wsX5_sensors (wsV RX5 168 RX4 yX4_compare wsX4_compare) := goodIn_app (goodIn_of _ (by decide +kernel)) ggX5_sensors_X4_compare
set_option maxRecDepth 20000 in
theorem ggX5_sensors_X4_fewest : GoodIn wsX5_sensors wsX4_fewest := goodIn_r _ [27, 28, 29, 30, 31, 32, 33, 34, 35, 36, 37, 18, 38, 20, 22, 64, 65] (by decide +kernel) (by decide +kernel)
set_option maxRecDepth 20000 in
theorem gX5_sensors_X4_fewest : GoodIn wsX5_sensors (wsV RX5 174 RX4 yX4_fewest wsX4_fewest) := goodIn_app (goodIn_of _ (by decide +kernel)) ggX5_sensors_X4_fewest
set_option maxRecDepth 20000 in
theorem ggX5_sensors_J6_bitCount_0f7a4 : GoodIn wsX5_sensors wsJ6_bitCount_0f7a4 := goodIn_r _ [31, 32, 33, 34] (by decide +kernel) (by decide +kernel)
set_option maxRecDepth 20000 in
theorem gX5_sensors_J6_bitCount_0f7a4 : GoodIn wsX5_sensors (va_wsS RX5 177 yJ6_bitCount_0f7a4 wsJ6_bitCount_0f7a4) := goodIn_app (goodIn_of _ (by decide +kernel)) ggX5_sensors_J6_bitCount_0f7a4
theorem dX5_sensors_0 : decode cX5_sensors 0 = .ok (.iload_n 1, 1) := by decide +kernel
theorem dX5_sensors_1 : decode cX5_sensors 1 = .ok (.iconst 0, 1) := by decide +kernel
theorem dX5_sensors_2 : decode cX5_sensors 2 = .ok (.iconst 1, 1) := by decide +kernel
theorem dX5_sensors_3 : decode cX5_sensors 3 = .ok (.invokestatic 122, 3) := by decide +kernel
theorem dX5_sensors_6 : decode cX5_sensors 6 = .ok (.ifCond .ne 10, 3) := by decide +kernel
theorem dX5_sensors_9 : decode cX5_sensors 9 = .ok (.aload_n 0, 1) := by decide +kernel
theorem dX5_sensors_10 : decode cX5_sensors 10 = .ok (.bipush (-2), 2) := by decide +kernel
theorem dX5_sensors_12 : decode cX5_sensors 12 = .ok (.invokevirtual 75, 3) := by decide +kernel
theorem dX5_sensors_15 : decode cX5_sensors 15 = .ok (.ireturn, 1) := by decide +kernel
theorem dX5_sensors_16 : decode cX5_sensors 16 = .ok (.aload_n 0, 1) := by decide +kernel
theorem dX5_sensors_17 : decode cX5_sensors 17 = .ok (.getfield 33, 3) := by decide +kernel
theorem dX5_sensors_20 : decode cX5_sensors 20 = .ok (.aload_n 0, 1) := by decide +kernel
theorem dX5_sensors_21 : decode cX5_sensors 21 = .ok (.getfield 12, 3) := by decide +kernel
theorem dX5_sensors_24 : decode cX5_sensors 24 = .ok (.invokevirtual 168, 3) := by decide +kernel
theorem dX5_sensors_27 : decode cX5_sensors 27 = .ok (.aload_n 0, 1) := by decide +kernel
theorem dX5_sensors_28 : decode cX5_sensors 28 = .ok (.getfield 33, 3) := by decide +kernel
theorem dX5_sensors_31 : decode cX5_sensors 31 = .ok (.aload_n 0, 1) := by decide +kernel
theorem dX5_sensors_32 : decode cX5_sensors 32 = .ok (.getfield 12, 3) := by decide +kernel
theorem dX5_sensors_35 : decode cX5_sensors 35 = .ok (.getfield 161, 3) := by decide +kernel
theorem dX5_sensors_38 : decode cX5_sensors 38 = .ok (.invokevirtual 174, 3) := by decide +kernel
theorem dX5_sensors_41 : decode cX5_sensors 41 = .ok (.istore_n 2, 1) := by decide +kernel
theorem dX5_sensors_42 : decode cX5_sensors 42 = .ok (.iload_n 1, 1) := by decide +kernel
theorem dX5_sensors_43 : decode cX5_sensors 43 = .ok (.ifCond .eq 8, 3) := by decide +kernel
theorem dX5_sensors_46 : decode cX5_sensors 46 = .ok (.iload_n 2, 1) := by decide +kernel
theorem dX5_sensors_47 : decode cX5_sensors 47 = .ok (.iconst (-1), 1) := by decide +kernel
theorem dX5_sensors_48 : decode cX5_sensors 48 = .ok (.if_icmp .ne 7, 3) := by decide +kernel
theorem dX5_sensors_51 : decode cX5_sensors 51 = .ok (.iload_n 2, 1) := by decide +kernel
theorem dX5_sensors_52 : decode cX5_sensors 52 = .ok (.goto 7, 3) := by decide +kernel
theorem dX5_sensors_55 : decode cX5_sensors 55 = .ok (.iload_n 2, 1) := by decide +kernel
theorem dX5_sensors_56 : decode cX5_sensors 56 = .ok (.invokestatic 177, 3) := by decide +kernel
theorem dX5_sensors_59 : decode cX5_sensors 59 = .ok (.ireturn, 1) := by decide +kernel
set_option maxRecDepth 20000 in
theorem ggX5_type_X5_within : GoodIn wsX5_type wsX5_within := goodIn_r _ [6] (by decide +kernel) (by decide +kernel)
set_option maxRecDepth 20000 in
theorem gX5_type_X5_within : GoodIn wsX5_type (va_wsS RX5 122 yX5_within wsX5_within) := goodIn_app (goodIn_of _ (by decide +kernel)) ggX5_type_X5_within
set_option maxRecDepth 20000 in
theorem ggX5_type_X5_refused : GoodIn wsX5_type wsX5_refused := goodIn_r _ [10, 11, 12, 13, 14, 15, 16, 17, 18, 19, 20, 21, 22, 23] (by decide +kernel) (by decide +kernel)
set_option maxRecDepth 20000 in
theorem gX5_type_X5_refused : GoodIn wsX5_type (wsV RX5 75 RX5 yX5_refused wsX5_refused) := goodIn_app (goodIn_of _ (by decide +kernel)) ggX5_type_X5_refused
theorem dX5_type_0 : decode cX5_type 0 = .ok (.iload_n 1, 1) := by decide +kernel
theorem dX5_type_1 : decode cX5_type 1 = .ok (.iconst 0, 1) := by decide +kernel
theorem dX5_type_2 : decode cX5_type 2 = .ok (.bipush 127, 2) := by decide +kernel
theorem dX5_type_4 : decode cX5_type 4 = .ok (.invokestatic 122, 3) := by decide +kernel
theorem dX5_type_7 : decode cX5_type 7 = .ok (.ifCond .ne 10, 3) := by decide +kernel
theorem dX5_type_10 : decode cX5_type 10 = .ok (.aload_n 0, 1) := by decide +kernel
theorem dX5_type_11 : decode cX5_type 11 = .ok (.bipush (-2), 2) := by decide +kernel
theorem dX5_type_13 : decode cX5_type 13 = .ok (.invokevirtual 75, 3) := by decide +kernel
theorem dX5_type_16 : decode cX5_type 16 = .ok (.ireturn, 1) := by decide +kernel
theorem dX5_type_17 : decode cX5_type 17 = .ok (.aload_n 0, 1) := by decide +kernel
theorem dX5_type_18 : decode cX5_type 18 = .ok (.getfield 181, 3) := by decide +kernel
theorem dX5_type_21 : decode cX5_type 21 = .ok (.bipush 120, 2) := by decide +kernel
theorem dX5_type_23 : decode cX5_type 23 = .ok (.if_icmp .lt 10, 3) := by decide +kernel
theorem dX5_type_26 : decode cX5_type 26 = .ok (.aload_n 0, 1) := by decide +kernel
theorem dX5_type_27 : decode cX5_type 27 = .ok (.bipush (-4), 2) := by decide +kernel
theorem dX5_type_29 : decode cX5_type 29 = .ok (.invokevirtual 75, 3) := by decide +kernel
theorem dX5_type_32 : decode cX5_type 32 = .ok (.ireturn, 1) := by decide +kernel
theorem dX5_type_33 : decode cX5_type 33 = .ok (.aload_n 0, 1) := by decide +kernel
theorem dX5_type_34 : decode cX5_type 34 = .ok (.getfield 44, 3) := by decide +kernel
theorem dX5_type_37 : decode cX5_type 37 = .ok (.aload_n 0, 1) := by decide +kernel
theorem dX5_type_38 : decode cX5_type 38 = .ok (.getfield 181, 3) := by decide +kernel
theorem dX5_type_41 : decode cX5_type 41 = .ok (.iload_n 1, 1) := by decide +kernel
theorem dX5_type_42 : decode cX5_type 42 = .ok (.i2b, 1) := by decide +kernel
theorem dX5_type_43 : decode cX5_type 43 = .ok (.bastore, 1) := by decide +kernel
theorem dX5_type_44 : decode cX5_type 44 = .ok (.aload_n 0, 1) := by decide +kernel
theorem dX5_type_45 : decode cX5_type 45 = .ok (.dup, 1) := by decide +kernel
theorem dX5_type_46 : decode cX5_type 46 = .ok (.getfield 181, 3) := by decide +kernel
theorem dX5_type_49 : decode cX5_type 49 = .ok (.iconst 1, 1) := by decide +kernel
theorem dX5_type_50 : decode cX5_type 50 = .ok (.iadd, 1) := by decide +kernel
theorem dX5_type_51 : decode cX5_type 51 = .ok (.putfield 181, 3) := by decide +kernel
theorem dX5_type_54 : decode cX5_type 54 = .ok (.aload_n 0, 1) := by decide +kernel
theorem dX5_type_55 : decode cX5_type 55 = .ok (.getfield 181, 3) := by decide +kernel
theorem dX5_type_58 : decode cX5_type 58 = .ok (.ireturn, 1) := by decide +kernel
theorem dX5_clear_0 : decode cX5_clear 0 = .ok (.aload_n 0, 1) := by decide +kernel
theorem dX5_clear_1 : decode cX5_clear 1 = .ok (.getfield 181, 3) := by decide +kernel
theorem dX5_clear_4 : decode cX5_clear 4 = .ok (.istore_n 1, 1) := by decide +kernel
theorem dX5_clear_5 : decode cX5_clear 5 = .ok (.aload_n 0, 1) := by decide +kernel
theorem dX5_clear_6 : decode cX5_clear 6 = .ok (.iconst 0, 1) := by decide +kernel
theorem dX5_clear_7 : decode cX5_clear 7 = .ok (.putfield 181, 3) := by decide +kernel
theorem dX5_clear_10 : decode cX5_clear 10 = .ok (.iload_n 1, 1) := by decide +kernel
theorem dX5_clear_11 : decode cX5_clear 11 = .ok (.ireturn, 1) := by decide +kernel
set_option maxRecDepth 20000 in
theorem ggX5_reads_X2_parse : GoodIn wsX5_reads wsX2_parse := goodIn_r _ [11, 12, 13, 14, 15, 16, 10, 17, 18, 19, 20, 21, 22, 23, 24, 25, 26, 27, 28, 29, 30, 31, 32, 33, 34, 35, 36, 37, 38, 39, 170, 171, 172, 173, 174, 175] (by decide +kernel) (by decide +kernel)
set_option maxRecDepth 20000 in
theorem gX5_reads_X2_parse : GoodIn wsX5_reads (wsV RX5 184 RX2 yX2_parse wsX2_parse) := goodIn_app (goodIn_of _ (by decide +kernel)) ggX5_reads_X2_parse
set_option maxRecDepth 20000 in
theorem ggX5_reads_X3_mark : GoodIn wsX5_reads wsX3_mark := goodIn_r _ [44, 45, 46, 47, 48, 49, 50, 51, 52, 53, 54, 55, 56, 57, 58, 59, 60, 61, 62, 63, 64, 65, 66, 67, 68, 69, 70, 71, 72, 73, 74, 75, 76, 176, 177, 178, 179, 180, 181, 182, 183, 184, 185, 186, 187, 188, 189, 190, 191] (by decide +kernel) (by decide +kernel)
set_option maxRecDepth 20000 in
theorem gX5_reads_X3_mark : GoodIn wsX5_reads (wsV RX5 48 RX3 yX3_mark wsX3_mark) := goodIn_app (goodIn_of _ (by decide +kernel)) ggX5_reads_X3_mark
set_option maxRecDepth 20000 in
theorem ggX5_reads_X2_obey : GoodIn wsX5_reads wsX2_obey := goodIn_r _ [80, 39, 23, 81, 82, 83, 50, 84, 52, 53, 54, 85, 86, 87, 32, 33, 34, 88, 89, 90, 91, 92, 93, 94, 95, 96, 97, 98, 55, 56, 57, 58, 99, 100, 101, 102, 61, 103, 104, 105, 106, 107, 108, 109, 110, 111, 112, 113, 59, 60, 114, 115, 116, 117, 118, 119, 120, 121, 122, 123, 124, 125, 62, 63, 64, 65, 126, 127, 128, 129, 130, 131, 132, 133, 170, 171, 172, 173, 174, 175, 178, 179, 180, 181, 182, 183, 184, 185, 186, 187, 188, 189, 190, 191] (by decide +kernel) (by decide +kernel)
set_option maxRecDepth 20000 in
theorem gX5_reads_X2_obey : GoodIn wsX5_reads (wsV RX5 191 RX2 yX2_obey wsX2_obey) := goodIn_app (goodIn_of _ (by decide +kernel)) ggX5_reads_X2_obey
set_option maxRecDepth 20000 in
theorem ggX5_reads_X3_toMark : GoodIn wsX5_reads wsX3_toMark := goodIn_r _ [137, 45, 46, 47, 48, 49, 50, 51, 52, 53, 54, 55, 56, 57, 58, 59, 60, 61, 62, 63, 64, 65, 66, 67, 68, 69, 70, 71, 72, 73, 74, 75, 76, 176, 177, 178, 179, 180, 181, 182, 183, 184, 185, 186, 187, 188, 189, 190, 191] (by decide +kernel) (by decide +kernel)
set_option maxRecDepth 20000 in
theorem gX5_reads_X3_toMark : GoodIn wsX5_reads (wsV RX5 195 RX3 yX3_toMark wsX3_toMark) := goodIn_app (goodIn_of _ (by decide +kernel)) ggX5_reads_X3_toMark
set_option maxRecDepth 20000 in
theorem ggX5_reads_X5_settled : GoodIn wsX5_reads wsX5_settled := goodIn_r _ [141, 4, 142, 143, 144, 145, 33, 146, 147, 148, 149, 150, 151, 152, 43, 153, 46, 45, 154, 155, 156, 157, 158, 159, 160, 161, 162, 163, 164, 165, 166, 167, 168, 169, 176, 177, 192, 193, 194] (by decide +kernel) (by decide +kernel)
set_option maxRecDepth 20000 in
theorem gX5_reads_X5_settled : GoodIn wsX5_reads (wsV RX5 56 RX5 yX5_settled wsX5_settled) := goodIn_app (goodIn_of _ (by decide +kernel)) ggX5_reads_X5_settled
theorem dX5_reads_0 : decode cX5_reads 0 = .ok (.aload_n 0, 1) := by decide +kernel
theorem dX5_reads_1 : decode cX5_reads 1 = .ok (.getfield 40, 3) := by decide +kernel
theorem dX5_reads_4 : decode cX5_reads 4 = .ok (.aload_n 0, 1) := by decide +kernel
theorem dX5_reads_5 : decode cX5_reads 5 = .ok (.getfield 44, 3) := by decide +kernel
theorem dX5_reads_8 : decode cX5_reads 8 = .ok (.aload_n 0, 1) := by decide +kernel
theorem dX5_reads_9 : decode cX5_reads 9 = .ok (.getfield 181, 3) := by decide +kernel
theorem dX5_reads_12 : decode cX5_reads 12 = .ok (.invokevirtual 184, 3) := by decide +kernel
theorem dX5_reads_15 : decode cX5_reads 15 = .ok (.istore_n 1, 1) := by decide +kernel
theorem dX5_reads_16 : decode cX5_reads 16 = .ok (.iload_n 1, 1) := by decide +kernel
theorem dX5_reads_17 : decode cX5_reads 17 = .ok (.iconst (-1), 1) := by decide +kernel
theorem dX5_reads_18 : decode cX5_reads 18 = .ok (.if_icmp .eq 8, 3) := by decide +kernel
theorem dX5_reads_21 : decode cX5_reads 21 = .ok (.bipush (-10), 2) := by decide +kernel
theorem dX5_reads_23 : decode cX5_reads 23 = .ok (.iload_n 1, 1) := by decide +kernel
theorem dX5_reads_24 : decode cX5_reads 24 = .ok (.isub, 1) := by decide +kernel
theorem dX5_reads_25 : decode cX5_reads 25 = .ok (.ireturn, 1) := by decide +kernel
theorem dX5_reads_26 : decode cX5_reads 26 = .ok (.aload_n 0, 1) := by decide +kernel
theorem dX5_reads_27 : decode cX5_reads 27 = .ok (.getfield 19, 3) := by decide +kernel
theorem dX5_reads_30 : decode cX5_reads 30 = .ok (.aload_n 0, 1) := by decide +kernel
theorem dX5_reads_31 : decode cX5_reads 31 = .ok (.getfield 12, 3) := by decide +kernel
theorem dX5_reads_34 : decode cX5_reads 34 = .ok (.invokevirtual 48, 3) := by decide +kernel
theorem dX5_reads_37 : decode cX5_reads 37 = .ok (.iconst 0, 1) := by decide +kernel
theorem dX5_reads_38 : decode cX5_reads 38 = .ok (.istore_n 2, 1) := by decide +kernel
theorem dX5_reads_39 : decode cX5_reads 39 = .ok (.iload_n 2, 1) := by decide +kernel
theorem dX5_reads_40 : decode cX5_reads 40 = .ok (.aload_n 0, 1) := by decide +kernel
theorem dX5_reads_41 : decode cX5_reads 41 = .ok (.getfield 40, 3) := by decide +kernel
theorem dX5_reads_44 : decode cX5_reads 44 = .ok (.getfield 188, 3) := by decide +kernel
theorem dX5_reads_47 : decode cX5_reads 47 = .ok (.if_icmp .ge 41, 3) := by decide +kernel
theorem dX5_reads_50 : decode cX5_reads 50 = .ok (.aload_n 0, 1) := by decide +kernel
theorem dX5_reads_51 : decode cX5_reads 51 = .ok (.getfield 40, 3) := by decide +kernel
theorem dX5_reads_54 : decode cX5_reads 54 = .ok (.iload_n 2, 1) := by decide +kernel
theorem dX5_reads_55 : decode cX5_reads 55 = .ok (.aload_n 0, 1) := by decide +kernel
theorem dX5_reads_56 : decode cX5_reads 56 = .ok (.getfield 12, 3) := by decide +kernel
theorem dX5_reads_59 : decode cX5_reads 59 = .ok (.invokevirtual 191, 3) := by decide +kernel
theorem dX5_reads_62 : decode cX5_reads 62 = .ok (.ifCond .ge 20, 3) := by decide +kernel
theorem dX5_reads_65 : decode cX5_reads 65 = .ok (.aload_n 0, 1) := by decide +kernel
theorem dX5_reads_66 : decode cX5_reads 66 = .ok (.getfield 19, 3) := by decide +kernel
theorem dX5_reads_69 : decode cX5_reads 69 = .ok (.aload_n 0, 1) := by decide +kernel
theorem dX5_reads_70 : decode cX5_reads 70 = .ok (.getfield 12, 3) := by decide +kernel
theorem dX5_reads_73 : decode cX5_reads 73 = .ok (.invokevirtual 195, 3) := by decide +kernel
theorem dX5_reads_76 : decode cX5_reads 76 = .ok (.sipush (-1000), 3) := by decide +kernel
theorem dX5_reads_79 : decode cX5_reads 79 = .ok (.iload_n 2, 1) := by decide +kernel
theorem dX5_reads_80 : decode cX5_reads 80 = .ok (.isub, 1) := by decide +kernel
theorem dX5_reads_81 : decode cX5_reads 81 = .ok (.ireturn, 1) := by decide +kernel
theorem dX5_reads_82 : decode cX5_reads 82 = .ok (.iinc 2 1, 3) := by decide +kernel
theorem dX5_reads_85 : decode cX5_reads 85 = .ok (.goto (-46), 3) := by decide +kernel
theorem dX5_reads_88 : decode cX5_reads 88 = .ok (.aload_n 0, 1) := by decide +kernel
theorem dX5_reads_89 : decode cX5_reads 89 = .ok (.aload_n 0, 1) := by decide +kernel
theorem dX5_reads_90 : decode cX5_reads 90 = .ok (.getfield 40, 3) := by decide +kernel
theorem dX5_reads_93 : decode cX5_reads 93 = .ok (.getfield 188, 3) := by decide +kernel
theorem dX5_reads_96 : decode cX5_reads 96 = .ok (.invokevirtual 56, 3) := by decide +kernel
theorem dX5_reads_99 : decode cX5_reads 99 = .ok (.ireturn, 1) := by decide +kernel
set_option maxRecDepth 20000 in
theorem ggX5_back_X5_refused : GoodIn wsX5_back wsX5_refused := goodIn_r _ [9, 10, 11, 12, 56, 57, 58, 59, 60, 61, 62, 63, 64, 65] (by decide +kernel) (by decide +kernel)
set_option maxRecDepth 20000 in
theorem gX5_back_X5_refused : GoodIn wsX5_back (wsV RX5 75 RX5 yX5_refused wsX5_refused) := goodIn_app (goodIn_of _ (by decide +kernel)) ggX5_back_X5_refused
set_option maxRecDepth 20000 in
theorem ggX5_back_X3_undo : GoodIn wsX5_back wsX3_undo := goodIn_r _ [17, 18, 19, 20, 21, 22, 23, 24, 25, 26, 27, 28, 29, 30, 31, 32, 33, 34, 35, 36, 37, 38, 39, 40, 41, 42, 43, 44, 45, 46, 47, 48, 49, 66, 67, 68, 69, 70, 71, 72, 73, 74, 75, 76, 77, 78, 79, 80, 81] (by decide +kernel) (by decide +kernel)
set_option maxRecDepth 20000 in
theorem gX5_back_X3_undo : GoodIn wsX5_back (wsV RX5 199 RX3 yX3_undo wsX3_undo) := goodIn_app (goodIn_of _ (by decide +kernel)) ggX5_back_X3_undo
set_option maxRecDepth 20000 in
theorem ggX5_back_X1_outdate : GoodIn wsX5_back wsX1_outdate := goodIn_r _ [54, 55, 82, 83, 84] (by decide +kernel) (by decide +kernel)
set_option maxRecDepth 20000 in
theorem gX5_back_X1_outdate : GoodIn wsX5_back (wsV RX5 202 RX1 yX1_outdate wsX1_outdate) := goodIn_app (goodIn_of _ (by decide +kernel)) ggX5_back_X1_outdate
theorem dX5_back_0 : decode cX5_back 0 = .ok (.aload_n 0, 1) := by decide +kernel
theorem dX5_back_1 : decode cX5_back 1 = .ok (.getfield 19, 3) := by decide +kernel
theorem dX5_back_4 : decode cX5_back 4 = .ok (.getfield 198, 3) := by decide +kernel
theorem dX5_back_7 : decode cX5_back 7 = .ok (.ifCond .ne 10, 3) := by decide +kernel
theorem dX5_back_10 : decode cX5_back 10 = .ok (.aload_n 0, 1) := by decide +kernel
theorem dX5_back_11 : decode cX5_back 11 = .ok (.bipush (-3), 2) := by decide +kernel
theorem dX5_back_13 : decode cX5_back 13 = .ok (.invokevirtual 75, 3) := by decide +kernel
theorem dX5_back_16 : decode cX5_back 16 = .ok (.ireturn, 1) := by decide +kernel
theorem dX5_back_17 : decode cX5_back 17 = .ok (.aload_n 0, 1) := by decide +kernel
theorem dX5_back_18 : decode cX5_back 18 = .ok (.getfield 19, 3) := by decide +kernel
theorem dX5_back_21 : decode cX5_back 21 = .ok (.aload_n 0, 1) := by decide +kernel
theorem dX5_back_22 : decode cX5_back 22 = .ok (.getfield 12, 3) := by decide +kernel
theorem dX5_back_25 : decode cX5_back 25 = .ok (.invokevirtual 199, 3) := by decide +kernel
theorem dX5_back_28 : decode cX5_back 28 = .ok (.aload_n 0, 1) := by decide +kernel
theorem dX5_back_29 : decode cX5_back 29 = .ok (.getfield 26, 3) := by decide +kernel
theorem dX5_back_32 : decode cX5_back 32 = .ok (.invokevirtual 202, 3) := by decide +kernel
theorem dX5_back_35 : decode cX5_back 35 = .ok (.aload_n 0, 1) := by decide +kernel
theorem dX5_back_36 : decode cX5_back 36 = .ok (.getfield 19, 3) := by decide +kernel
theorem dX5_back_39 : decode cX5_back 39 = .ok (.getfield 198, 3) := by decide +kernel
theorem dX5_back_42 : decode cX5_back 42 = .ok (.ireturn, 1) := by decide +kernel
set_option maxRecDepth 20000 in
theorem ggX5_told_X5_refused : GoodIn wsX5_told wsX5_refused := goodIn_r _ [15, 1, 2, 3, 16, 17, 18, 19, 20, 21, 22, 23, 24, 25] (by decide +kernel) (by decide +kernel)
set_option maxRecDepth 20000 in
theorem gX5_told_X5_refused : GoodIn wsX5_told (wsV RX5 75 RX5 yX5_refused wsX5_refused) := goodIn_app (goodIn_of _ (by decide +kernel)) ggX5_told_X5_refused
theorem dX5_told_0 : decode cX5_told 0 = .ok (.iload_n 1, 1) := by decide +kernel
theorem dX5_told_1 : decode cX5_told 1 = .ok (.tableswitch 99 0 7 #[47, 52, 57, 62, 67, 75, 83, 91], 47) := by decide +kernel
theorem dX5_told_48 : decode cX5_told 48 = .ok (.aload_n 0, 1) := by decide +kernel
theorem dX5_told_49 : decode cX5_told 49 = .ok (.getfield 205, 3) := by decide +kernel
theorem dX5_told_52 : decode cX5_told 52 = .ok (.ireturn, 1) := by decide +kernel
theorem dX5_told_53 : decode cX5_told 53 = .ok (.aload_n 0, 1) := by decide +kernel
theorem dX5_told_54 : decode cX5_told 54 = .ok (.getfield 208, 3) := by decide +kernel
theorem dX5_told_57 : decode cX5_told 57 = .ok (.ireturn, 1) := by decide +kernel
theorem dX5_told_58 : decode cX5_told 58 = .ok (.aload_n 0, 1) := by decide +kernel
theorem dX5_told_59 : decode cX5_told 59 = .ok (.getfield 211, 3) := by decide +kernel
theorem dX5_told_62 : decode cX5_told 62 = .ok (.ireturn, 1) := by decide +kernel
theorem dX5_told_63 : decode cX5_told 63 = .ok (.aload_n 0, 1) := by decide +kernel
theorem dX5_told_64 : decode cX5_told 64 = .ok (.getfield 181, 3) := by decide +kernel
theorem dX5_told_67 : decode cX5_told 67 = .ok (.ireturn, 1) := by decide +kernel
theorem dX5_told_68 : decode cX5_told 68 = .ok (.aload_n 0, 1) := by decide +kernel
theorem dX5_told_69 : decode cX5_told 69 = .ok (.getfield 12, 3) := by decide +kernel
theorem dX5_told_72 : decode cX5_told 72 = .ok (.getfield 161, 3) := by decide +kernel
theorem dX5_told_75 : decode cX5_told 75 = .ok (.ireturn, 1) := by decide +kernel
theorem dX5_told_76 : decode cX5_told 76 = .ok (.aload_n 0, 1) := by decide +kernel
theorem dX5_told_77 : decode cX5_told 77 = .ok (.getfield 12, 3) := by decide +kernel
theorem dX5_told_80 : decode cX5_told 80 = .ok (.getfield 214, 3) := by decide +kernel
theorem dX5_told_83 : decode cX5_told 83 = .ok (.ireturn, 1) := by decide +kernel
theorem dX5_told_84 : decode cX5_told 84 = .ok (.aload_n 0, 1) := by decide +kernel
theorem dX5_told_85 : decode cX5_told 85 = .ok (.getfield 12, 3) := by decide +kernel
theorem dX5_told_88 : decode cX5_told 88 = .ok (.getfield 217, 3) := by decide +kernel
theorem dX5_told_91 : decode cX5_told 91 = .ok (.ireturn, 1) := by decide +kernel
theorem dX5_told_92 : decode cX5_told 92 = .ok (.aload_n 0, 1) := by decide +kernel
theorem dX5_told_93 : decode cX5_told 93 = .ok (.getfield 19, 3) := by decide +kernel
theorem dX5_told_96 : decode cX5_told 96 = .ok (.getfield 198, 3) := by decide +kernel
theorem dX5_told_99 : decode cX5_told 99 = .ok (.ireturn, 1) := by decide +kernel
theorem dX5_told_100 : decode cX5_told 100 = .ok (.aload_n 0, 1) := by decide +kernel
theorem dX5_told_101 : decode cX5_told 101 = .ok (.bipush (-2), 2) := by decide +kernel
theorem dX5_told_103 : decode cX5_told 103 = .ok (.invokevirtual 75, 3) := by decide +kernel
theorem dX5_told_106 : decode cX5_told 106 = .ok (.ireturn, 1) := by decide +kernel
set_option maxRecDepth 20000 in
theorem ggX5_digest_X5_told : GoodIn wsX5_digest wsX5_told := goodIn_r _ [9, 10, 11, 12, 13, 3, 4, 14, 15, 16, 17, 18, 19, 20, 8, 21, 183, 184, 185, 186, 187, 188, 189, 190, 191, 192, 193, 194, 195, 196, 197, 198, 199, 200, 201, 202, 203, 204, 205, 206, 207, 208] (by decide +kernel) (by decide +kernel)
set_option maxRecDepth 20000 in
theorem gX5_digest_X5_told : GoodIn wsX5_digest (wsV RX5 224 RX5 yX5_told wsX5_told) := goodIn_app (goodIn_of _ (by decide +kernel)) ggX5_digest_X5_told
set_option maxRecDepth 20000 in
theorem ggX5_digest_X5_digestShafts : GoodIn wsX5_digest wsX5_digestShafts := goodIn_r _ [25, 3, 4, 2, 26, 27, 28, 8, 29, 30, 31, 32, 33, 34, 35, 36, 37, 38, 39, 40, 41, 42, 18, 19, 20, 21, 10, 11, 12, 43, 44, 45, 46, 47, 48, 49, 50, 51, 52, 53, 54, 55, 56, 57, 58, 59, 60, 61, 62, 63, 64, 65, 66, 67, 68, 69, 70, 71, 72, 73, 74, 75, 76, 77, 78, 79, 80, 81, 82, 83, 84, 85, 86, 87, 88, 89, 90, 91, 92, 93, 94, 95, 96, 97, 98, 99, 100, 101, 102, 103, 104, 105, 106, 107, 108, 109, 110, 183, 184, 185, 186, 187, 188, 189, 190, 191, 192, 193, 194, 195, 196, 197, 198, 199, 200, 201, 202, 203, 204, 205, 206, 209, 210, 211] (by decide +kernel) (by decide +kernel)
set_option maxRecDepth 20000 in
theorem gX5_digest_X5_digestShafts : GoodIn wsX5_digest (wsV RX5 227 RX5 yX5_digestShafts wsX5_digestShafts) := goodIn_app (goodIn_of _ (by decide +kernel)) ggX5_digest_X5_digestShafts
set_option maxRecDepth 20000 in
theorem ggX5_digest_X5_digestPipes : GoodIn wsX5_digest wsX5_digestPipes := goodIn_r _ [114, 3, 14, 2, 115, 116, 117, 8, 118, 32, 33, 119, 120, 121, 122, 123, 38, 124, 47, 41, 42, 18, 19, 20, 21, 10, 11, 12, 183, 184, 185, 186, 187, 188, 189, 190, 191, 192, 193, 194, 195, 196, 197, 198, 199, 200, 201, 202, 203, 204, 205, 206] (by decide +kernel) (by decide +kernel)
set_option maxRecDepth 20000 in
theorem gX5_digest_X5_digestPipes : GoodIn wsX5_digest (wsV RX5 231 RX5 yX5_digestPipes wsX5_digestPipes) := goodIn_app (goodIn_of _ (by decide +kernel)) ggX5_digest_X5_digestPipes
set_option maxRecDepth 20000 in
theorem ggX5_digest_X5_comes : GoodIn wsX5_digest wsX5_comes := goodIn_r _ [128, 3, 61, 129, 130, 131, 132, 8, 133, 35, 36, 37, 38, 39, 40, 41, 42, 134, 18, 19, 20, 21, 10, 11, 12, 135, 70, 71, 65, 72, 73, 74, 75, 76, 77, 78, 79, 80, 81, 82, 83, 84, 85, 86, 87, 88, 89, 90, 91, 92, 93, 94, 95, 96, 97, 98, 183, 184, 185, 186, 187, 188, 189, 190, 191, 192, 209, 210, 211, 193, 194, 195, 196, 197, 198, 199, 200, 201, 202, 203, 204, 205, 206] (by decide +kernel) (by decide +kernel)
set_option maxRecDepth 20000 in
theorem gX5_digest_X5_comes : GoodIn wsX5_digest (wsV RX5 234 RX5 yX5_comes wsX5_comes) := goodIn_app (goodIn_of _ (by decide +kernel)) ggX5_digest_X5_comes
set_option maxRecDepth 20000 in
theorem ggX5_digest_X5_next : GoodIn wsX5_digest wsX5_next := goodIn_r _ [139, 61, 3, 4, 134, 41, 8, 42, 18, 19, 20, 21, 10, 11, 12, 140, 141, 142, 65, 143, 144, 145, 63, 64, 66, 67, 68, 69, 70, 71, 72, 73, 74, 75, 76, 77, 78, 79, 80, 81, 82, 83, 84, 38, 85, 86, 87, 88, 89, 90, 91, 92, 93, 94, 95, 96, 97, 98, 99, 100, 101, 102, 103, 104, 105, 106, 107, 108, 109, 110, 48, 49, 50, 51, 40, 52, 53, 54, 55, 56, 146, 147, 148, 149, 150, 151, 152, 153, 154, 155, 156, 157, 158, 159, 183, 184, 185, 186, 187, 188, 189, 190, 191, 192, 193, 194, 195, 196, 197, 198, 199, 200, 201, 202, 203, 204, 205, 206, 209, 210, 211] (by decide +kernel) (by decide +kernel)
set_option maxRecDepth 20000 in
theorem gX5_digest_X5_next : GoodIn wsX5_digest (wsV RX5 238 RX5 yX5_next wsX5_next) := goodIn_app (goodIn_of _ (by decide +kernel)) ggX5_digest_X5_next
set_option maxRecDepth 20000 in
theorem ggX5_digest_X5_sensors : GoodIn wsX5_digest wsX5_sensors := goodIn_r _ [163, 164, 3, 4, 134, 41, 8, 42, 18, 19, 20, 21, 10, 11, 12, 165, 166, 167, 168, 169, 170, 171, 172, 173, 174, 175, 176, 177, 178, 154, 155, 156, 157, 158, 159, 179, 180, 181, 182, 153, 183, 184, 185, 186, 187, 188, 189, 190, 191, 192, 193, 194, 195, 196, 197, 198, 199, 200, 201, 202, 203, 204, 205, 206, 212, 213] (by decide +kernel) (by decide +kernel)
set_option maxRecDepth 20000 in
theorem gX5_digest_X5_sensors : GoodIn wsX5_digest (wsV RX5 241 RX5 yX5_sensors wsX5_sensors) := goodIn_app (goodIn_of _ (by decide +kernel)) ggX5_digest_X5_sensors
theorem dX5_digest_0 : decode cX5_digest 0 = .ok (.ldc2_w 220, 3) := by decide +kernel
theorem dX5_digest_3 : decode cX5_digest 3 = .ok (.lstore_n 1, 1) := by decide +kernel
theorem dX5_digest_4 : decode cX5_digest 4 = .ok (.iconst 0, 1) := by decide +kernel
theorem dX5_digest_5 : decode cX5_digest 5 = .ok (.istore_n 3, 1) := by decide +kernel
theorem dX5_digest_6 : decode cX5_digest 6 = .ok (.iload_n 3, 1) := by decide +kernel
theorem dX5_digest_7 : decode cX5_digest 7 = .ok (.bipush 7, 2) := by decide +kernel
theorem dX5_digest_9 : decode cX5_digest 9 = .ok (.if_icmp .gt 22, 3) := by decide +kernel
theorem dX5_digest_12 : decode cX5_digest 12 = .ok (.ldc2_w 222, 3) := by decide +kernel
theorem dX5_digest_15 : decode cX5_digest 15 = .ok (.lload_n 1, 1) := by decide +kernel
theorem dX5_digest_16 : decode cX5_digest 16 = .ok (.lmul, 1) := by decide +kernel
theorem dX5_digest_17 : decode cX5_digest 17 = .ok (.aload_n 0, 1) := by decide +kernel
theorem dX5_digest_18 : decode cX5_digest 18 = .ok (.iload_n 3, 1) := by decide +kernel
theorem dX5_digest_19 : decode cX5_digest 19 = .ok (.invokevirtual 224, 3) := by decide +kernel
theorem dX5_digest_22 : decode cX5_digest 22 = .ok (.i2l, 1) := by decide +kernel
theorem dX5_digest_23 : decode cX5_digest 23 = .ok (.ladd, 1) := by decide +kernel
theorem dX5_digest_24 : decode cX5_digest 24 = .ok (.lstore_n 1, 1) := by decide +kernel
theorem dX5_digest_25 : decode cX5_digest 25 = .ok (.iinc 3 1, 3) := by decide +kernel
theorem dX5_digest_28 : decode cX5_digest 28 = .ok (.goto (-22), 3) := by decide +kernel
theorem dX5_digest_31 : decode cX5_digest 31 = .ok (.aload_n 0, 1) := by decide +kernel
theorem dX5_digest_32 : decode cX5_digest 32 = .ok (.lload_n 1, 1) := by decide +kernel
theorem dX5_digest_33 : decode cX5_digest 33 = .ok (.invokevirtual 227, 3) := by decide +kernel
theorem dX5_digest_36 : decode cX5_digest 36 = .ok (.lstore_n 1, 1) := by decide +kernel
theorem dX5_digest_37 : decode cX5_digest 37 = .ok (.aload_n 0, 1) := by decide +kernel
theorem dX5_digest_38 : decode cX5_digest 38 = .ok (.lload_n 1, 1) := by decide +kernel
theorem dX5_digest_39 : decode cX5_digest 39 = .ok (.invokevirtual 231, 3) := by decide +kernel
theorem dX5_digest_42 : decode cX5_digest 42 = .ok (.lstore_n 1, 1) := by decide +kernel
theorem dX5_digest_43 : decode cX5_digest 43 = .ok (.iconst 0, 1) := by decide +kernel
theorem dX5_digest_44 : decode cX5_digest 44 = .ok (.istore_n 3, 1) := by decide +kernel
theorem dX5_digest_45 : decode cX5_digest 45 = .ok (.iload_n 3, 1) := by decide +kernel
theorem dX5_digest_46 : decode cX5_digest 46 = .ok (.aload_n 0, 1) := by decide +kernel
theorem dX5_digest_47 : decode cX5_digest 47 = .ok (.getfield 12, 3) := by decide +kernel
theorem dX5_digest_50 : decode cX5_digest 50 = .ok (.getfield 161, 3) := by decide +kernel
theorem dX5_digest_53 : decode cX5_digest 53 = .ok (.if_icmp .ge 45, 3) := by decide +kernel
theorem dX5_digest_56 : decode cX5_digest 56 = .ok (.iconst 0, 1) := by decide +kernel
theorem dX5_digest_57 : decode cX5_digest 57 = .ok (.istore 4, 2) := by decide +kernel
theorem dX5_digest_59 : decode cX5_digest 59 = .ok (.iload 4, 2) := by decide +kernel
theorem dX5_digest_61 : decode cX5_digest 61 = .ok (.aload_n 0, 1) := by decide +kernel
theorem dX5_digest_62 : decode cX5_digest 62 = .ok (.getfield 12, 3) := by decide +kernel
theorem dX5_digest_65 : decode cX5_digest 65 = .ok (.getfield 161, 3) := by decide +kernel
theorem dX5_digest_68 : decode cX5_digest 68 = .ok (.if_icmp .ge 24, 3) := by decide +kernel
theorem dX5_digest_71 : decode cX5_digest 71 = .ok (.ldc2_w 222, 3) := by decide +kernel
theorem dX5_digest_74 : decode cX5_digest 74 = .ok (.lload_n 1, 1) := by decide +kernel
theorem dX5_digest_75 : decode cX5_digest 75 = .ok (.lmul, 1) := by decide +kernel
theorem dX5_digest_76 : decode cX5_digest 76 = .ok (.aload_n 0, 1) := by decide +kernel
theorem dX5_digest_77 : decode cX5_digest 77 = .ok (.iload 4, 2) := by decide +kernel
theorem dX5_digest_79 : decode cX5_digest 79 = .ok (.iconst 5, 1) := by decide +kernel
theorem dX5_digest_80 : decode cX5_digest 80 = .ok (.iload_n 3, 1) := by decide +kernel
theorem dX5_digest_81 : decode cX5_digest 81 = .ok (.invokevirtual 234, 3) := by decide +kernel
theorem dX5_digest_84 : decode cX5_digest 84 = .ok (.ladd, 1) := by decide +kernel
theorem dX5_digest_85 : decode cX5_digest 85 = .ok (.lstore_n 1, 1) := by decide +kernel
theorem dX5_digest_86 : decode cX5_digest 86 = .ok (.iinc 4 1, 3) := by decide +kernel
theorem dX5_digest_89 : decode cX5_digest 89 = .ok (.goto (-30), 3) := by decide +kernel
theorem dX5_digest_92 : decode cX5_digest 92 = .ok (.iinc 3 1, 3) := by decide +kernel
theorem dX5_digest_95 : decode cX5_digest 95 = .ok (.goto (-50), 3) := by decide +kernel
theorem dX5_digest_98 : decode cX5_digest 98 = .ok (.ldc2_w 222, 3) := by decide +kernel
theorem dX5_digest_101 : decode cX5_digest 101 = .ok (.lload_n 1, 1) := by decide +kernel
theorem dX5_digest_102 : decode cX5_digest 102 = .ok (.lmul, 1) := by decide +kernel
theorem dX5_digest_103 : decode cX5_digest 103 = .ok (.aload_n 0, 1) := by decide +kernel
theorem dX5_digest_104 : decode cX5_digest 104 = .ok (.iconst 0, 1) := by decide +kernel
theorem dX5_digest_105 : decode cX5_digest 105 = .ok (.invokevirtual 238, 3) := by decide +kernel
theorem dX5_digest_108 : decode cX5_digest 108 = .ok (.i2l, 1) := by decide +kernel
theorem dX5_digest_109 : decode cX5_digest 109 = .ok (.ladd, 1) := by decide +kernel
theorem dX5_digest_110 : decode cX5_digest 110 = .ok (.lstore_n 1, 1) := by decide +kernel
theorem dX5_digest_111 : decode cX5_digest 111 = .ok (.ldc2_w 222, 3) := by decide +kernel
theorem dX5_digest_114 : decode cX5_digest 114 = .ok (.lload_n 1, 1) := by decide +kernel
theorem dX5_digest_115 : decode cX5_digest 115 = .ok (.lmul, 1) := by decide +kernel
theorem dX5_digest_116 : decode cX5_digest 116 = .ok (.aload_n 0, 1) := by decide +kernel
theorem dX5_digest_117 : decode cX5_digest 117 = .ok (.iconst 1, 1) := by decide +kernel
theorem dX5_digest_118 : decode cX5_digest 118 = .ok (.invokevirtual 238, 3) := by decide +kernel
theorem dX5_digest_121 : decode cX5_digest 121 = .ok (.i2l, 1) := by decide +kernel
theorem dX5_digest_122 : decode cX5_digest 122 = .ok (.ladd, 1) := by decide +kernel
theorem dX5_digest_123 : decode cX5_digest 123 = .ok (.lstore_n 1, 1) := by decide +kernel
theorem dX5_digest_124 : decode cX5_digest 124 = .ok (.ldc2_w 222, 3) := by decide +kernel
theorem dX5_digest_127 : decode cX5_digest 127 = .ok (.lload_n 1, 1) := by decide +kernel
theorem dX5_digest_128 : decode cX5_digest 128 = .ok (.lmul, 1) := by decide +kernel
theorem dX5_digest_129 : decode cX5_digest 129 = .ok (.aload_n 0, 1) := by decide +kernel
theorem dX5_digest_130 : decode cX5_digest 130 = .ok (.iconst 0, 1) := by decide +kernel
theorem dX5_digest_131 : decode cX5_digest 131 = .ok (.invokevirtual 241, 3) := by decide +kernel
theorem dX5_digest_134 : decode cX5_digest 134 = .ok (.i2l, 1) := by decide +kernel
theorem dX5_digest_135 : decode cX5_digest 135 = .ok (.ladd, 1) := by decide +kernel
theorem dX5_digest_136 : decode cX5_digest 136 = .ok (.lreturn, 1) := by decide +kernel
set_option maxRecDepth 20000 in
theorem ggX5_digestShafts_X5_of : GoodIn wsX5_digestShafts wsX5_of := goodIn_r _ [8, 1, 9, 10, 11, 12, 13, 14, 15, 16, 17, 18, 19, 20, 7, 21, 22, 23, 24, 25, 26, 27, 28, 29, 30, 31, 32, 33, 34, 35, 36, 37, 38, 39, 40, 41, 42, 97, 98, 99, 100, 101, 102, 103, 104, 105, 106, 107, 108, 109, 110, 111, 112, 113, 114, 115, 116, 117, 118, 119, 120] (by decide +kernel) (by decide +kernel)
set_option maxRecDepth 20000 in
theorem gX5_digestShafts_X5_of : GoodIn wsX5_digestShafts (wsV RX5 244 RX5 yX5_of wsX5_of) := goodIn_app (goodIn_of _ (by decide +kernel)) ggX5_digestShafts_X5_of
set_option maxRecDepth 20000 in
theorem ggX5_digestShafts_X5_when : GoodIn wsX5_digestShafts wsX5_when := goodIn_r _ [46, 1, 47, 14, 15, 16, 17, 18, 19, 20, 7, 21, 22, 23, 24, 25, 26, 27, 28, 48, 49, 50, 51, 52, 53, 54, 55, 56, 57, 58, 59, 60, 61, 62, 63, 64, 65, 66, 67, 68, 69, 70, 71, 72, 73, 74, 75, 76, 77, 78, 79, 80, 81, 82, 83, 84, 85, 86, 87, 88, 89, 90, 91, 92, 93, 94, 95, 96, 97, 98, 99, 100, 101, 102, 103, 104, 105, 106, 107, 108, 109, 110, 111, 112, 113, 114, 115, 116, 117, 118, 119, 120, 121, 122, 123] (by decide +kernel) (by decide +kernel)
set_option maxRecDepth 20000 in
theorem gX5_digestShafts_X5_when : GoodIn wsX5_digestShafts (wsV RX5 247 RX5 yX5_when wsX5_when) := goodIn_app (goodIn_of _ (by decide +kernel)) ggX5_digestShafts_X5_when
theorem dX5_digestShafts_0 : decode cX5_digestShafts 0 = .ok (.lload_n 1, 1) := by decide +kernel
theorem dX5_digestShafts_1 : decode cX5_digestShafts 1 = .ok (.lstore_n 3, 1) := by decide +kernel
theorem dX5_digestShafts_2 : decode cX5_digestShafts 2 = .ok (.iconst 0, 1) := by decide +kernel
theorem dX5_digestShafts_3 : decode cX5_digestShafts 3 = .ok (.istore 5, 2) := by decide +kernel
theorem dX5_digestShafts_5 : decode cX5_digestShafts 5 = .ok (.iload 5, 2) := by decide +kernel
theorem dX5_digestShafts_7 : decode cX5_digestShafts 7 = .ok (.aload_n 0, 1) := by decide +kernel
theorem dX5_digestShafts_8 : decode cX5_digestShafts 8 = .ok (.getfield 12, 3) := by decide +kernel
theorem dX5_digestShafts_11 : decode cX5_digestShafts 11 = .ok (.getfield 161, 3) := by decide +kernel
theorem dX5_digestShafts_14 : decode cX5_digestShafts 14 = .ok (.if_icmp .ge 54, 3) := by decide +kernel
theorem dX5_digestShafts_17 : decode cX5_digestShafts 17 = .ok (.iconst 0, 1) := by decide +kernel
theorem dX5_digestShafts_18 : decode cX5_digestShafts 18 = .ok (.istore 6, 2) := by decide +kernel
theorem dX5_digestShafts_20 : decode cX5_digestShafts 20 = .ok (.iload 6, 2) := by decide +kernel
theorem dX5_digestShafts_22 : decode cX5_digestShafts 22 = .ok (.iconst 5, 1) := by decide +kernel
theorem dX5_digestShafts_23 : decode cX5_digestShafts 23 = .ok (.if_icmp .gt 25, 3) := by decide +kernel
theorem dX5_digestShafts_26 : decode cX5_digestShafts 26 = .ok (.ldc2_w 222, 3) := by decide +kernel
theorem dX5_digestShafts_29 : decode cX5_digestShafts 29 = .ok (.lload_n 3, 1) := by decide +kernel
theorem dX5_digestShafts_30 : decode cX5_digestShafts 30 = .ok (.lmul, 1) := by decide +kernel
theorem dX5_digestShafts_31 : decode cX5_digestShafts 31 = .ok (.aload_n 0, 1) := by decide +kernel
theorem dX5_digestShafts_32 : decode cX5_digestShafts 32 = .ok (.iload 5, 2) := by decide +kernel
theorem dX5_digestShafts_34 : decode cX5_digestShafts 34 = .ok (.iload 6, 2) := by decide +kernel
theorem dX5_digestShafts_36 : decode cX5_digestShafts 36 = .ok (.invokevirtual 244, 3) := by decide +kernel
theorem dX5_digestShafts_39 : decode cX5_digestShafts 39 = .ok (.i2l, 1) := by decide +kernel
theorem dX5_digestShafts_40 : decode cX5_digestShafts 40 = .ok (.ladd, 1) := by decide +kernel
theorem dX5_digestShafts_41 : decode cX5_digestShafts 41 = .ok (.lstore_n 3, 1) := by decide +kernel
theorem dX5_digestShafts_42 : decode cX5_digestShafts 42 = .ok (.iinc 6 1, 3) := by decide +kernel
theorem dX5_digestShafts_45 : decode cX5_digestShafts 45 = .ok (.goto (-25), 3) := by decide +kernel
theorem dX5_digestShafts_48 : decode cX5_digestShafts 48 = .ok (.ldc2_w 222, 3) := by decide +kernel
theorem dX5_digestShafts_51 : decode cX5_digestShafts 51 = .ok (.lload_n 3, 1) := by decide +kernel
theorem dX5_digestShafts_52 : decode cX5_digestShafts 52 = .ok (.lmul, 1) := by decide +kernel
theorem dX5_digestShafts_53 : decode cX5_digestShafts 53 = .ok (.aload_n 0, 1) := by decide +kernel
theorem dX5_digestShafts_54 : decode cX5_digestShafts 54 = .ok (.iload 5, 2) := by decide +kernel
theorem dX5_digestShafts_56 : decode cX5_digestShafts 56 = .ok (.invokevirtual 247, 3) := by decide +kernel
theorem dX5_digestShafts_59 : decode cX5_digestShafts 59 = .ok (.i2l, 1) := by decide +kernel
theorem dX5_digestShafts_60 : decode cX5_digestShafts 60 = .ok (.ladd, 1) := by decide +kernel
theorem dX5_digestShafts_61 : decode cX5_digestShafts 61 = .ok (.lstore_n 3, 1) := by decide +kernel
theorem dX5_digestShafts_62 : decode cX5_digestShafts 62 = .ok (.iinc 5 1, 3) := by decide +kernel
theorem dX5_digestShafts_65 : decode cX5_digestShafts 65 = .ok (.goto (-60), 3) := by decide +kernel
theorem dX5_digestShafts_68 : decode cX5_digestShafts 68 = .ok (.lload_n 3, 1) := by decide +kernel
theorem dX5_digestShafts_69 : decode cX5_digestShafts 69 = .ok (.lreturn, 1) := by decide +kernel
set_option maxRecDepth 20000 in
theorem ggX5_digestPipes_X5_about : GoodIn wsX5_digestPipes wsX5_about := goodIn_r _ [8, 1, 9, 10, 11, 12, 13, 14, 15, 16, 17, 18, 19, 7, 20, 21, 22, 23, 24, 25, 26, 27, 28, 29, 30, 31, 32, 33, 34, 35, 36, 37, 38, 39, 40, 41, 42, 43, 44, 45, 46, 47, 48, 49, 50, 51] (by decide +kernel) (by decide +kernel)
set_option maxRecDepth 20000 in
theorem gX5_digestPipes_X5_about : GoodIn wsX5_digestPipes (wsV RX5 250 RX5 yX5_about wsX5_about) := goodIn_app (goodIn_of _ (by decide +kernel)) ggX5_digestPipes_X5_about
theorem dX5_digestPipes_0 : decode cX5_digestPipes 0 = .ok (.lload_n 1, 1) := by decide +kernel
theorem dX5_digestPipes_1 : decode cX5_digestPipes 1 = .ok (.lstore_n 3, 1) := by decide +kernel
theorem dX5_digestPipes_2 : decode cX5_digestPipes 2 = .ok (.iconst 0, 1) := by decide +kernel
theorem dX5_digestPipes_3 : decode cX5_digestPipes 3 = .ok (.istore 5, 2) := by decide +kernel
theorem dX5_digestPipes_5 : decode cX5_digestPipes 5 = .ok (.iload 5, 2) := by decide +kernel
theorem dX5_digestPipes_7 : decode cX5_digestPipes 7 = .ok (.aload_n 0, 1) := by decide +kernel
theorem dX5_digestPipes_8 : decode cX5_digestPipes 8 = .ok (.getfield 12, 3) := by decide +kernel
theorem dX5_digestPipes_11 : decode cX5_digestPipes 11 = .ok (.getfield 214, 3) := by decide +kernel
theorem dX5_digestPipes_14 : decode cX5_digestPipes 14 = .ok (.if_icmp .ge 40, 3) := by decide +kernel
theorem dX5_digestPipes_17 : decode cX5_digestPipes 17 = .ok (.iconst 0, 1) := by decide +kernel
theorem dX5_digestPipes_18 : decode cX5_digestPipes 18 = .ok (.istore 6, 2) := by decide +kernel
theorem dX5_digestPipes_20 : decode cX5_digestPipes 20 = .ok (.iload 6, 2) := by decide +kernel
theorem dX5_digestPipes_22 : decode cX5_digestPipes 22 = .ok (.iconst 3, 1) := by decide +kernel
theorem dX5_digestPipes_23 : decode cX5_digestPipes 23 = .ok (.if_icmp .gt 25, 3) := by decide +kernel
theorem dX5_digestPipes_26 : decode cX5_digestPipes 26 = .ok (.ldc2_w 222, 3) := by decide +kernel
theorem dX5_digestPipes_29 : decode cX5_digestPipes 29 = .ok (.lload_n 3, 1) := by decide +kernel
theorem dX5_digestPipes_30 : decode cX5_digestPipes 30 = .ok (.lmul, 1) := by decide +kernel
theorem dX5_digestPipes_31 : decode cX5_digestPipes 31 = .ok (.aload_n 0, 1) := by decide +kernel
theorem dX5_digestPipes_32 : decode cX5_digestPipes 32 = .ok (.iload 5, 2) := by decide +kernel
theorem dX5_digestPipes_34 : decode cX5_digestPipes 34 = .ok (.iload 6, 2) := by decide +kernel
theorem dX5_digestPipes_36 : decode cX5_digestPipes 36 = .ok (.invokevirtual 250, 3) := by decide +kernel
theorem dX5_digestPipes_39 : decode cX5_digestPipes 39 = .ok (.i2l, 1) := by decide +kernel
theorem dX5_digestPipes_40 : decode cX5_digestPipes 40 = .ok (.ladd, 1) := by decide +kernel
theorem dX5_digestPipes_41 : decode cX5_digestPipes 41 = .ok (.lstore_n 3, 1) := by decide +kernel
theorem dX5_digestPipes_42 : decode cX5_digestPipes 42 = .ok (.iinc 6 1, 3) := by decide +kernel
theorem dX5_digestPipes_45 : decode cX5_digestPipes 45 = .ok (.goto (-25), 3) := by decide +kernel
theorem dX5_digestPipes_48 : decode cX5_digestPipes 48 = .ok (.iinc 5 1, 3) := by decide +kernel
theorem dX5_digestPipes_51 : decode cX5_digestPipes 51 = .ok (.goto (-46), 3) := by decide +kernel
theorem dX5_digestPipes_54 : decode cX5_digestPipes 54 = .ok (.lload_n 3, 1) := by decide +kernel
theorem dX5_digestPipes_55 : decode cX5_digestPipes 55 = .ok (.lreturn, 1) := by decide +kernel
set_option maxRecDepth 20000 in
theorem ggX5_isStart_X0_hasShaft : GoodIn wsX5_isStart wsX0_hasShaft := goodIn_r _ [6, 7, 8, 9, 10, 22, 23, 24, 25, 26, 27, 28, 29, 30, 31, 32, 33, 34, 35] (by decide +kernel) (by decide +kernel)
set_option maxRecDepth 20000 in
theorem gX5_isStart_X0_hasShaft : GoodIn wsX5_isStart (wsV RX5 71 RX0 yX0_hasShaft wsX0_hasShaft) := goodIn_app (goodIn_of _ (by decide +kernel)) ggX5_isStart_X0_hasShaft
set_option maxRecDepth 20000 in
theorem ggX5_isStart_X5_within : GoodIn wsX5_isStart wsX5_within := goodIn_r _ [10] (by decide +kernel) (by decide +kernel)
set_option maxRecDepth 20000 in
theorem gX5_isStart_X5_within : GoodIn wsX5_isStart (va_wsS RX5 122 yX5_within wsX5_within) := goodIn_app (goodIn_of _ (by decide +kernel)) ggX5_isStart_X5_within
theorem dX5_isStart_0 : decode cX5_isStart 0 = .ok (.aload_n 0, 1) := by decide +kernel
theorem dX5_isStart_1 : decode cX5_isStart 1 = .ok (.getfield 12, 3) := by decide +kernel
theorem dX5_isStart_4 : decode cX5_isStart 4 = .ok (.iload_n 1, 1) := by decide +kernel
theorem dX5_isStart_5 : decode cX5_isStart 5 = .ok (.invokevirtual 71, 3) := by decide +kernel
theorem dX5_isStart_8 : decode cX5_isStart 8 = .ok (.ifCond .eq 17, 3) := by decide +kernel
theorem dX5_isStart_11 : decode cX5_isStart 11 = .ok (.iload_n 2, 1) := by decide +kernel
theorem dX5_isStart_12 : decode cX5_isStart 12 = .ok (.iconst 0, 1) := by decide +kernel
theorem dX5_isStart_13 : decode cX5_isStart 13 = .ok (.bipush 30, 2) := by decide +kernel
theorem dX5_isStart_15 : decode cX5_isStart 15 = .ok (.invokestatic 122, 3) := by decide +kernel
theorem dX5_isStart_18 : decode cX5_isStart 18 = .ok (.ifCond .eq 7, 3) := by decide +kernel
theorem dX5_isStart_21 : decode cX5_isStart 21 = .ok (.iconst 1, 1) := by decide +kernel
theorem dX5_isStart_22 : decode cX5_isStart 22 = .ok (.goto 4, 3) := by decide +kernel
theorem dX5_isStart_25 : decode cX5_isStart 25 = .ok (.iconst 0, 1) := by decide +kernel
theorem dX5_isStart_26 : decode cX5_isStart 26 = .ok (.ireturn, 1) := by decide +kernel
set_option maxRecDepth 20000 in
theorem ggX5_settled_X5_refused : GoodIn wsX5_settled wsX5_refused := goodIn_r _ [7, 8, 9, 10, 24, 25, 26, 27, 28, 29, 30, 31, 32, 33] (by decide +kernel) (by decide +kernel)
set_option maxRecDepth 20000 in
theorem gX5_settled_X5_refused : GoodIn wsX5_settled (wsV RX5 75 RX5 yX5_refused wsX5_refused) := goodIn_app (goodIn_of _ (by decide +kernel)) ggX5_settled_X5_refused
set_option maxRecDepth 20000 in
theorem ggX5_settled_X3_keep : GoodIn wsX5_settled wsX3_keep := goodIn_r _ [15, 16, 17, 34, 35] (by decide +kernel) (by decide +kernel)
set_option maxRecDepth 20000 in
theorem gX5_settled_X3_keep : GoodIn wsX5_settled (wsV RX5 253 RX3 yX3_keep wsX3_keep) := goodIn_app (goodIn_of _ (by decide +kernel)) ggX5_settled_X3_keep
set_option maxRecDepth 20000 in
theorem ggX5_settled_X1_outdate : GoodIn wsX5_settled wsX1_outdate := goodIn_r _ [22, 23, 36, 37, 38] (by decide +kernel) (by decide +kernel)
set_option maxRecDepth 20000 in
theorem gX5_settled_X1_outdate : GoodIn wsX5_settled (wsV RX5 202 RX1 yX1_outdate wsX1_outdate) := goodIn_app (goodIn_of _ (by decide +kernel)) ggX5_settled_X1_outdate
theorem dX5_settled_0 : decode cX5_settled 0 = .ok (.iload_n 1, 1) := by decide +kernel
theorem dX5_settled_1 : decode cX5_settled 1 = .ok (.ifCond .ge 9, 3) := by decide +kernel
theorem dX5_settled_4 : decode cX5_settled 4 = .ok (.aload_n 0, 1) := by decide +kernel
theorem dX5_settled_5 : decode cX5_settled 5 = .ok (.iload_n 1, 1) := by decide +kernel
theorem dX5_settled_6 : decode cX5_settled 6 = .ok (.invokevirtual 75, 3) := by decide +kernel
theorem dX5_settled_9 : decode cX5_settled 9 = .ok (.ireturn, 1) := by decide +kernel
theorem dX5_settled_10 : decode cX5_settled 10 = .ok (.aload_n 0, 1) := by decide +kernel
theorem dX5_settled_11 : decode cX5_settled 11 = .ok (.getfield 19, 3) := by decide +kernel
theorem dX5_settled_14 : decode cX5_settled 14 = .ok (.invokevirtual 253, 3) := by decide +kernel
theorem dX5_settled_17 : decode cX5_settled 17 = .ok (.aload_n 0, 1) := by decide +kernel
theorem dX5_settled_18 : decode cX5_settled 18 = .ok (.getfield 26, 3) := by decide +kernel
theorem dX5_settled_21 : decode cX5_settled 21 = .ok (.invokevirtual 202, 3) := by decide +kernel
theorem dX5_settled_24 : decode cX5_settled 24 = .ok (.iload_n 1, 1) := by decide +kernel
theorem dX5_settled_25 : decode cX5_settled 25 = .ok (.ireturn, 1) := by decide +kernel
theorem dX5_refused_0 : decode cX5_refused 0 = .ok (.iload_n 1, 1) := by decide +kernel
theorem dX5_refused_1 : decode cX5_refused 1 = .ok (.lookupswitch 53 #[(-3, 40), (-2, 27)], 27) := by decide +kernel
theorem dX5_refused_28 : decode cX5_refused 28 = .ok (.aload_n 0, 1) := by decide +kernel
theorem dX5_refused_29 : decode cX5_refused 29 = .ok (.dup, 1) := by decide +kernel
theorem dX5_refused_30 : decode cX5_refused 30 = .ok (.getfield 205, 3) := by decide +kernel
theorem dX5_refused_33 : decode cX5_refused 33 = .ok (.iconst 1, 1) := by decide +kernel
theorem dX5_refused_34 : decode cX5_refused 34 = .ok (.iadd, 1) := by decide +kernel
theorem dX5_refused_35 : decode cX5_refused 35 = .ok (.putfield 205, 3) := by decide +kernel
theorem dX5_refused_38 : decode cX5_refused 38 = .ok (.goto 26, 3) := by decide +kernel
theorem dX5_refused_41 : decode cX5_refused 41 = .ok (.aload_n 0, 1) := by decide +kernel
theorem dX5_refused_42 : decode cX5_refused 42 = .ok (.dup, 1) := by decide +kernel
theorem dX5_refused_43 : decode cX5_refused 43 = .ok (.getfield 208, 3) := by decide +kernel
theorem dX5_refused_46 : decode cX5_refused 46 = .ok (.iconst 1, 1) := by decide +kernel
theorem dX5_refused_47 : decode cX5_refused 47 = .ok (.iadd, 1) := by decide +kernel
theorem dX5_refused_48 : decode cX5_refused 48 = .ok (.putfield 208, 3) := by decide +kernel
theorem dX5_refused_51 : decode cX5_refused 51 = .ok (.goto 13, 3) := by decide +kernel
theorem dX5_refused_54 : decode cX5_refused 54 = .ok (.aload_n 0, 1) := by decide +kernel
theorem dX5_refused_55 : decode cX5_refused 55 = .ok (.dup, 1) := by decide +kernel
theorem dX5_refused_56 : decode cX5_refused 56 = .ok (.getfield 211, 3) := by decide +kernel
theorem dX5_refused_59 : decode cX5_refused 59 = .ok (.iconst 1, 1) := by decide +kernel
theorem dX5_refused_60 : decode cX5_refused 60 = .ok (.iadd, 1) := by decide +kernel
theorem dX5_refused_61 : decode cX5_refused 61 = .ok (.putfield 211, 3) := by decide +kernel
theorem dX5_refused_64 : decode cX5_refused 64 = .ok (.iload_n 1, 1) := by decide +kernel
theorem dX5_refused_65 : decode cX5_refused 65 = .ok (.ireturn, 1) := by decide +kernel
set_option maxRecDepth 20000 in
theorem ggX5_largerPart_J6_bitCount_0f7a4 : GoodIn wsX5_largerPart wsJ6_bitCount_0f7a4 := goodIn_r _ [8, 9, 10, 11] (by decide +kernel) (by decide +kernel)
set_option maxRecDepth 20000 in
theorem gX5_largerPart_J6_bitCount_0f7a4 : GoodIn wsX5_largerPart (va_wsS RX5 177 yJ6_bitCount_0f7a4 wsJ6_bitCount_0f7a4) := goodIn_app (goodIn_of _ (by decide +kernel)) ggX5_largerPart_J6_bitCount_0f7a4
theorem dX5_largerPart_0 : decode cX5_largerPart 0 = .ok (.iload_n 0, 1) := by decide +kernel
theorem dX5_largerPart_1 : decode cX5_largerPart 1 = .ok (.iload_n 1, 1) := by decide +kernel
theorem dX5_largerPart_2 : decode cX5_largerPart 2 = .ok (.iand, 1) := by decide +kernel
theorem dX5_largerPart_3 : decode cX5_largerPart 3 = .ok (.invokestatic 177, 3) := by decide +kernel
theorem dX5_largerPart_6 : decode cX5_largerPart 6 = .ok (.istore_n 2, 1) := by decide +kernel
theorem dX5_largerPart_7 : decode cX5_largerPart 7 = .ok (.iload_n 2, 1) := by decide +kernel
theorem dX5_largerPart_8 : decode cX5_largerPart 8 = .ok (.iload_n 0, 1) := by decide +kernel
theorem dX5_largerPart_9 : decode cX5_largerPart 9 = .ok (.invokestatic 177, 3) := by decide +kernel
theorem dX5_largerPart_12 : decode cX5_largerPart 12 = .ok (.iload_n 2, 1) := by decide +kernel
theorem dX5_largerPart_13 : decode cX5_largerPart 13 = .ok (.isub, 1) := by decide +kernel
theorem dX5_largerPart_14 : decode cX5_largerPart 14 = .ok (.invokestatic 256, 3) := by decide +kernel
theorem dX5_largerPart_17 : decode cX5_largerPart 17 = .ok (.ireturn, 1) := by decide +kernel
theorem dX5_within_0 : decode cX5_within 0 = .ok (.iload_n 0, 1) := by decide +kernel
theorem dX5_within_1 : decode cX5_within 1 = .ok (.iload_n 1, 1) := by decide +kernel
theorem dX5_within_2 : decode cX5_within 2 = .ok (.if_icmp .lt 12, 3) := by decide +kernel
theorem dX5_within_5 : decode cX5_within 5 = .ok (.iload_n 0, 1) := by decide +kernel
theorem dX5_within_6 : decode cX5_within 6 = .ok (.iload_n 2, 1) := by decide +kernel
theorem dX5_within_7 : decode cX5_within 7 = .ok (.if_icmp .gt 7, 3) := by decide +kernel
theorem dX5_within_10 : decode cX5_within 10 = .ok (.iconst 1, 1) := by decide +kernel
theorem dX5_within_11 : decode cX5_within 11 = .ok (.goto 4, 3) := by decide +kernel
theorem dX5_within_14 : decode cX5_within 14 = .ok (.iconst 0, 1) := by decide +kernel
theorem dX5_within_15 : decode cX5_within 15 = .ok (.ireturn, 1) := by decide +kernel
