theorem dX6_init_0 : decode cX6_init 0 = .ok (.aload_n 0, 1) := by decide +kernel
theorem dX6_init_1 : decode cX6_init 1 = .ok (.invokespecial 1, 3) := by decide +kernel
theorem dX6_init_4 : decode cX6_init 4 = .ok (.aload_n 0, 1) := by decide +kernel
theorem dX6_init_5 : decode cX6_init 5 = .ok (.bipush 123, 2) := by decide +kernel
theorem dX6_init_7 : decode cX6_init 7 = .ok (.newarray .int, 2) := by decide +kernel
theorem dX6_init_9 : decode cX6_init 9 = .ok (.putfield 7, 3) := by decide +kernel
theorem dX6_init_12 : decode cX6_init 12 = .ok (.aload_n 0, 1) := by decide +kernel
theorem dX6_init_13 : decode cX6_init 13 = .ok (.bipush 123, 2) := by decide +kernel
theorem dX6_init_15 : decode cX6_init 15 = .ok (.newarray .int, 2) := by decide +kernel
theorem dX6_init_17 : decode cX6_init 17 = .ok (.putfield 13, 3) := by decide +kernel
theorem dX6_init_20 : decode cX6_init 20 = .ok (.aload_n 0, 1) := by decide +kernel
theorem dX6_init_21 : decode cX6_init 21 = .ok (.sipush 615, 3) := by decide +kernel
theorem dX6_init_24 : decode cX6_init 24 = .ok (.newarray .int, 2) := by decide +kernel
theorem dX6_init_26 : decode cX6_init 26 = .ok (.putfield 16, 3) := by decide +kernel
theorem dX6_init_29 : decode cX6_init 29 = .ok (.aload_n 0, 1) := by decide +kernel
theorem dX6_init_30 : decode cX6_init 30 = .ok (.iconst 3, 1) := by decide +kernel
theorem dX6_init_31 : decode cX6_init 31 = .ok (.newarray .int, 2) := by decide +kernel
theorem dX6_init_33 : decode cX6_init 33 = .ok (.putfield 19, 3) := by decide +kernel
theorem dX6_init_36 : decode cX6_init 36 = .ok (.aload_n 0, 1) := by decide +kernel
theorem dX6_init_37 : decode cX6_init 37 = .ok (.bipush 10, 2) := by decide +kernel
theorem dX6_init_39 : decode cX6_init 39 = .ok (.newarray .long, 2) := by decide +kernel
theorem dX6_init_41 : decode cX6_init 41 = .ok (.putfield 22, 3) := by decide +kernel
theorem dX6_init_44 : decode cX6_init 44 = .ok (.aload_n 0, 1) := by decide +kernel
theorem dX6_init_45 : decode cX6_init 45 = .ok (.bipush 10, 2) := by decide +kernel
theorem dX6_init_47 : decode cX6_init 47 = .ok (.newarray .int, 2) := by decide +kernel
theorem dX6_init_49 : decode cX6_init 49 = .ok (.putfield 26, 3) := by decide +kernel
theorem dX6_init_52 : decode cX6_init 52 = .ok (.aload_n 0, 1) := by decide +kernel
theorem dX6_init_53 : decode cX6_init 53 = .ok (.bipush 120, 2) := by decide +kernel
theorem dX6_init_55 : decode cX6_init 55 = .ok (.newarray .int, 2) := by decide +kernel
theorem dX6_init_57 : decode cX6_init 57 = .ok (.putfield 29, 3) := by decide +kernel
theorem dX6_init_60 : decode cX6_init 60 = .ok (.aload_n 0, 1) := by decide +kernel
theorem dX6_init_61 : decode cX6_init 61 = .ok (.bipush 40, 2) := by decide +kernel
theorem dX6_init_63 : decode cX6_init 63 = .ok (.newarray .int, 2) := by decide +kernel
theorem dX6_init_65 : decode cX6_init 65 = .ok (.putfield 32, 3) := by decide +kernel
theorem dX6_init_68 : decode cX6_init 68 = .ok (.aload_n 0, 1) := by decide +kernel
theorem dX6_init_69 : decode cX6_init 69 = .ok (.sipush 160, 3) := by decide +kernel
theorem dX6_init_72 : decode cX6_init 72 = .ok (.newarray .int, 2) := by decide +kernel
theorem dX6_init_74 : decode cX6_init 74 = .ok (.putfield 35, 3) := by decide +kernel
theorem dX6_init_77 : decode cX6_init 77 = .ok (.aload_n 0, 1) := by decide +kernel
theorem dX6_init_78 : decode cX6_init 78 = .ok (.iconst 0, 1) := by decide +kernel
theorem dX6_init_79 : decode cX6_init 79 = .ok (.putfield 38, 3) := by decide +kernel
theorem dX6_init_82 : decode cX6_init 82 = .ok (.return_, 1) := by decide +kernel
theorem dX6_in_0 : decode cX6_in 0 = .ok (.iload_n 0, 1) := by decide +kernel
theorem dX6_in_1 : decode cX6_in 1 = .ok (.iload_n 1, 1) := by decide +kernel
theorem dX6_in_2 : decode cX6_in 2 = .ok (.if_icmp .lt 12, 3) := by decide +kernel
theorem dX6_in_5 : decode cX6_in 5 = .ok (.iload_n 0, 1) := by decide +kernel
theorem dX6_in_6 : decode cX6_in 6 = .ok (.iload_n 2, 1) := by decide +kernel
theorem dX6_in_7 : decode cX6_in 7 = .ok (.if_icmp .gt 7, 3) := by decide +kernel
theorem dX6_in_10 : decode cX6_in 10 = .ok (.iconst 1, 1) := by decide +kernel
theorem dX6_in_11 : decode cX6_in 11 = .ok (.goto 4, 3) := by decide +kernel
theorem dX6_in_14 : decode cX6_in 14 = .ok (.iconst 0, 1) := by decide +kernel
theorem dX6_in_15 : decode cX6_in 15 = .ok (.ireturn, 1) := by decide +kernel
theorem dX6_has_0 : decode cX6_has 0 = .ok (.iload_n 0, 1) := by decide +kernel
theorem dX6_has_1 : decode cX6_has 1 = .ok (.iload_n 1, 1) := by decide +kernel
theorem dX6_has_2 : decode cX6_has 2 = .ok (.ishr, 1) := by decide +kernel
theorem dX6_has_3 : decode cX6_has 3 = .ok (.iconst 1, 1) := by decide +kernel
theorem dX6_has_4 : decode cX6_has 4 = .ok (.iand, 1) := by decide +kernel
theorem dX6_has_5 : decode cX6_has 5 = .ok (.iconst 1, 1) := by decide +kernel
theorem dX6_has_6 : decode cX6_has 6 = .ok (.if_icmp .ne 7, 3) := by decide +kernel
theorem dX6_has_9 : decode cX6_has 9 = .ok (.iconst 1, 1) := by decide +kernel
theorem dX6_has_10 : decode cX6_has 10 = .ok (.goto 4, 3) := by decide +kernel
theorem dX6_has_13 : decode cX6_has 13 = .ok (.iconst 0, 1) := by decide +kernel
theorem dX6_has_14 : decode cX6_has 14 = .ok (.ireturn, 1) := by decide +kernel
set_option maxRecDepth 20000 in
theorem ggX6_ones_X6_has : GoodIn wsX6_ones wsX6_has := goodIn_r _ [4] (by decide +kernel) (by decide +kernel)
set_option maxRecDepth 20000 in
theorem gX6_ones_X6_has : GoodIn wsX6_ones (va_wsS RX6 42 yX6_has wsX6_has) := goodIn_app (goodIn_of _ (by decide +kernel)) ggX6_ones_X6_has
theorem dX6_ones_0 : decode cX6_ones 0 = .ok (.iconst 0, 1) := by decide +kernel
theorem dX6_ones_1 : decode cX6_ones 1 = .ok (.istore_n 1, 1) := by decide +kernel
theorem dX6_ones_2 : decode cX6_ones 2 = .ok (.iconst 0, 1) := by decide +kernel
theorem dX6_ones_3 : decode cX6_ones 3 = .ok (.istore_n 2, 1) := by decide +kernel
theorem dX6_ones_4 : decode cX6_ones 4 = .ok (.iload_n 2, 1) := by decide +kernel
theorem dX6_ones_5 : decode cX6_ones 5 = .ok (.bipush 10, 2) := by decide +kernel
theorem dX6_ones_7 : decode cX6_ones 7 = .ok (.if_icmp .ge 25, 3) := by decide +kernel
theorem dX6_ones_10 : decode cX6_ones 10 = .ok (.iload_n 1, 1) := by decide +kernel
theorem dX6_ones_11 : decode cX6_ones 11 = .ok (.iload_n 0, 1) := by decide +kernel
theorem dX6_ones_12 : decode cX6_ones 12 = .ok (.iload_n 2, 1) := by decide +kernel
theorem dX6_ones_13 : decode cX6_ones 13 = .ok (.invokestatic 42, 3) := by decide +kernel
theorem dX6_ones_16 : decode cX6_ones 16 = .ok (.ifCond .eq 7, 3) := by decide +kernel
theorem dX6_ones_19 : decode cX6_ones 19 = .ok (.iconst 1, 1) := by decide +kernel
theorem dX6_ones_20 : decode cX6_ones 20 = .ok (.goto 4, 3) := by decide +kernel
theorem dX6_ones_23 : decode cX6_ones 23 = .ok (.iconst 0, 1) := by decide +kernel
theorem dX6_ones_24 : decode cX6_ones 24 = .ok (.iadd, 1) := by decide +kernel
theorem dX6_ones_25 : decode cX6_ones 25 = .ok (.istore_n 1, 1) := by decide +kernel
theorem dX6_ones_26 : decode cX6_ones 26 = .ok (.iinc 2 1, 3) := by decide +kernel
theorem dX6_ones_29 : decode cX6_ones 29 = .ok (.goto (-25), 3) := by decide +kernel
theorem dX6_ones_32 : decode cX6_ones 32 = .ok (.iload_n 1, 1) := by decide +kernel
theorem dX6_ones_33 : decode cX6_ones 33 = .ok (.ireturn, 1) := by decide +kernel
theorem dX6_refuses_0 : decode cX6_refuses 0 = .ok (.aload_n 0, 1) := by decide +kernel
theorem dX6_refuses_1 : decode cX6_refuses 1 = .ok (.getfield 19, 3) := by decide +kernel
theorem dX6_refuses_4 : decode cX6_refuses 4 = .ok (.bipush (-2), 2) := by decide +kernel
theorem dX6_refuses_6 : decode cX6_refuses 6 = .ok (.iload_n 1, 1) := by decide +kernel
theorem dX6_refuses_7 : decode cX6_refuses 7 = .ok (.isub, 1) := by decide +kernel
theorem dX6_refuses_8 : decode cX6_refuses 8 = .ok (.dup2, 1) := by decide +kernel
theorem dX6_refuses_9 : decode cX6_refuses 9 = .ok (.iaload, 1) := by decide +kernel
theorem dX6_refuses_10 : decode cX6_refuses 10 = .ok (.iconst 1, 1) := by decide +kernel
theorem dX6_refuses_11 : decode cX6_refuses 11 = .ok (.iadd, 1) := by decide +kernel
theorem dX6_refuses_12 : decode cX6_refuses 12 = .ok (.iastore, 1) := by decide +kernel
theorem dX6_refuses_13 : decode cX6_refuses 13 = .ok (.iload_n 1, 1) := by decide +kernel
theorem dX6_refuses_14 : decode cX6_refuses 14 = .ok (.ireturn, 1) := by decide +kernel
theorem dX6_hold_0 : decode cX6_hold 0 = .ok (.iconst 0, 1) := by decide +kernel
theorem dX6_hold_1 : decode cX6_hold 1 = .ok (.istore_n 1, 1) := by decide +kernel
theorem dX6_hold_2 : decode cX6_hold 2 = .ok (.iload_n 1, 1) := by decide +kernel
theorem dX6_hold_3 : decode cX6_hold 3 = .ok (.bipush 123, 2) := by decide +kernel
theorem dX6_hold_5 : decode cX6_hold 5 = .ok (.if_icmp .ge 21, 3) := by decide +kernel
theorem dX6_hold_8 : decode cX6_hold 8 = .ok (.aload_n 0, 1) := by decide +kernel
theorem dX6_hold_9 : decode cX6_hold 9 = .ok (.getfield 13, 3) := by decide +kernel
theorem dX6_hold_12 : decode cX6_hold 12 = .ok (.iload_n 1, 1) := by decide +kernel
theorem dX6_hold_13 : decode cX6_hold 13 = .ok (.aload_n 0, 1) := by decide +kernel
theorem dX6_hold_14 : decode cX6_hold 14 = .ok (.getfield 7, 3) := by decide +kernel
theorem dX6_hold_17 : decode cX6_hold 17 = .ok (.iload_n 1, 1) := by decide +kernel
theorem dX6_hold_18 : decode cX6_hold 18 = .ok (.iaload, 1) := by decide +kernel
theorem dX6_hold_19 : decode cX6_hold 19 = .ok (.iastore, 1) := by decide +kernel
theorem dX6_hold_20 : decode cX6_hold 20 = .ok (.iinc 1 1, 3) := by decide +kernel
theorem dX6_hold_23 : decode cX6_hold 23 = .ok (.goto (-21), 3) := by decide +kernel
theorem dX6_hold_26 : decode cX6_hold 26 = .ok (.return_, 1) := by decide +kernel
theorem dX6_push_0 : decode cX6_push 0 = .ok (.aload_n 0, 1) := by decide +kernel
theorem dX6_push_1 : decode cX6_push 1 = .ok (.getfield 38, 3) := by decide +kernel
theorem dX6_push_4 : decode cX6_push 4 = .ok (.iconst 5, 1) := by decide +kernel
theorem dX6_push_5 : decode cX6_push 5 = .ok (.if_icmp .ne 43, 3) := by decide +kernel
theorem dX6_push_8 : decode cX6_push 8 = .ok (.iconst 0, 1) := by decide +kernel
theorem dX6_push_9 : decode cX6_push 9 = .ok (.istore_n 1, 1) := by decide +kernel
theorem dX6_push_10 : decode cX6_push 10 = .ok (.iload_n 1, 1) := by decide +kernel
theorem dX6_push_11 : decode cX6_push 11 = .ok (.sipush 492, 3) := by decide +kernel
theorem dX6_push_14 : decode cX6_push 14 = .ok (.if_icmp .ge 24, 3) := by decide +kernel
theorem dX6_push_17 : decode cX6_push 17 = .ok (.aload_n 0, 1) := by decide +kernel
theorem dX6_push_18 : decode cX6_push 18 = .ok (.getfield 16, 3) := by decide +kernel
theorem dX6_push_21 : decode cX6_push 21 = .ok (.iload_n 1, 1) := by decide +kernel
theorem dX6_push_22 : decode cX6_push 22 = .ok (.aload_n 0, 1) := by decide +kernel
theorem dX6_push_23 : decode cX6_push 23 = .ok (.getfield 16, 3) := by decide +kernel
theorem dX6_push_26 : decode cX6_push 26 = .ok (.iload_n 1, 1) := by decide +kernel
theorem dX6_push_27 : decode cX6_push 27 = .ok (.bipush 123, 2) := by decide +kernel
theorem dX6_push_29 : decode cX6_push 29 = .ok (.iadd, 1) := by decide +kernel
theorem dX6_push_30 : decode cX6_push 30 = .ok (.iaload, 1) := by decide +kernel
theorem dX6_push_31 : decode cX6_push 31 = .ok (.iastore, 1) := by decide +kernel
theorem dX6_push_32 : decode cX6_push 32 = .ok (.iinc 1 1, 3) := by decide +kernel
theorem dX6_push_35 : decode cX6_push 35 = .ok (.goto (-25), 3) := by decide +kernel
theorem dX6_push_38 : decode cX6_push 38 = .ok (.aload_n 0, 1) := by decide +kernel
theorem dX6_push_39 : decode cX6_push 39 = .ok (.dup, 1) := by decide +kernel
theorem dX6_push_40 : decode cX6_push 40 = .ok (.getfield 38, 3) := by decide +kernel
theorem dX6_push_43 : decode cX6_push 43 = .ok (.iconst 1, 1) := by decide +kernel
theorem dX6_push_44 : decode cX6_push 44 = .ok (.isub, 1) := by decide +kernel
theorem dX6_push_45 : decode cX6_push 45 = .ok (.putfield 38, 3) := by decide +kernel
theorem dX6_push_48 : decode cX6_push 48 = .ok (.iconst 0, 1) := by decide +kernel
theorem dX6_push_49 : decode cX6_push 49 = .ok (.istore_n 1, 1) := by decide +kernel
theorem dX6_push_50 : decode cX6_push 50 = .ok (.iload_n 1, 1) := by decide +kernel
theorem dX6_push_51 : decode cX6_push 51 = .ok (.bipush 123, 2) := by decide +kernel
theorem dX6_push_53 : decode cX6_push 53 = .ok (.if_icmp .ge 29, 3) := by decide +kernel
theorem dX6_push_56 : decode cX6_push 56 = .ok (.aload_n 0, 1) := by decide +kernel
theorem dX6_push_57 : decode cX6_push 57 = .ok (.getfield 16, 3) := by decide +kernel
theorem dX6_push_60 : decode cX6_push 60 = .ok (.bipush 123, 2) := by decide +kernel
theorem dX6_push_62 : decode cX6_push 62 = .ok (.aload_n 0, 1) := by decide +kernel
theorem dX6_push_63 : decode cX6_push 63 = .ok (.getfield 38, 3) := by decide +kernel
theorem dX6_push_66 : decode cX6_push 66 = .ok (.imul, 1) := by decide +kernel
theorem dX6_push_67 : decode cX6_push 67 = .ok (.iload_n 1, 1) := by decide +kernel
theorem dX6_push_68 : decode cX6_push 68 = .ok (.iadd, 1) := by decide +kernel
theorem dX6_push_69 : decode cX6_push 69 = .ok (.aload_n 0, 1) := by decide +kernel
theorem dX6_push_70 : decode cX6_push 70 = .ok (.getfield 13, 3) := by decide +kernel
theorem dX6_push_73 : decode cX6_push 73 = .ok (.iload_n 1, 1) := by decide +kernel
theorem dX6_push_74 : decode cX6_push 74 = .ok (.iaload, 1) := by decide +kernel
theorem dX6_push_75 : decode cX6_push 75 = .ok (.iastore, 1) := by decide +kernel
theorem dX6_push_76 : decode cX6_push 76 = .ok (.iinc 1 1, 3) := by decide +kernel
theorem dX6_push_79 : decode cX6_push 79 = .ok (.goto (-29), 3) := by decide +kernel
theorem dX6_push_82 : decode cX6_push 82 = .ok (.aload_n 0, 1) := by decide +kernel
theorem dX6_push_83 : decode cX6_push 83 = .ok (.dup, 1) := by decide +kernel
theorem dX6_push_84 : decode cX6_push 84 = .ok (.getfield 38, 3) := by decide +kernel
theorem dX6_push_87 : decode cX6_push 87 = .ok (.iconst 1, 1) := by decide +kernel
theorem dX6_push_88 : decode cX6_push 88 = .ok (.iadd, 1) := by decide +kernel
theorem dX6_push_89 : decode cX6_push 89 = .ok (.putfield 38, 3) := by decide +kernel
theorem dX6_push_92 : decode cX6_push 92 = .ok (.return_, 1) := by decide +kernel
set_option maxRecDepth 20000 in
theorem ggX6_ends_X6_refuses : GoodIn wsX6_ends wsX6_refuses := goodIn_r _ [5, 6, 14, 15, 16, 17, 18, 19, 20, 21, 22, 23, 24, 25, 26, 27, 28] (by decide +kernel) (by decide +kernel)
set_option maxRecDepth 20000 in
theorem gX6_ends_X6_refuses : GoodIn wsX6_ends (wsV RX6 46 RX6 yX6_refuses wsX6_refuses) := goodIn_app (goodIn_of _ (by decide +kernel)) ggX6_ends_X6_refuses
set_option maxRecDepth 20000 in
theorem ggX6_ends_X6_push : GoodIn wsX6_ends wsX6_push := goodIn_r _ [10, 11, 12, 13, 14, 15, 16, 17, 18, 19, 20, 21, 22, 23, 24, 25, 26, 27, 28] (by decide +kernel) (by decide +kernel)
set_option maxRecDepth 20000 in
theorem gX6_ends_X6_push : GoodIn wsX6_ends (wsV RX6 50 RX6 yX6_push wsX6_push) := goodIn_app (goodIn_of _ (by decide +kernel)) ggX6_ends_X6_push
theorem dX6_ends_0 : decode cX6_ends 0 = .ok (.iload_n 1, 1) := by decide +kernel
theorem dX6_ends_1 : decode cX6_ends 1 = .ok (.ifCond .ge 9, 3) := by decide +kernel
theorem dX6_ends_4 : decode cX6_ends 4 = .ok (.aload_n 0, 1) := by decide +kernel
theorem dX6_ends_5 : decode cX6_ends 5 = .ok (.iload_n 1, 1) := by decide +kernel
theorem dX6_ends_6 : decode cX6_ends 6 = .ok (.invokevirtual 46, 3) := by decide +kernel
theorem dX6_ends_9 : decode cX6_ends 9 = .ok (.ireturn, 1) := by decide +kernel
theorem dX6_ends_10 : decode cX6_ends 10 = .ok (.aload_n 0, 1) := by decide +kernel
theorem dX6_ends_11 : decode cX6_ends 11 = .ok (.invokevirtual 50, 3) := by decide +kernel
theorem dX6_ends_14 : decode cX6_ends 14 = .ok (.iload_n 1, 1) := by decide +kernel
theorem dX6_ends_15 : decode cX6_ends 15 = .ok (.ireturn, 1) := by decide +kernel
set_option maxRecDepth 20000 in
theorem ggX6_back_X6_refuses : GoodIn wsX6_back wsX6_refuses := goodIn_r _ [8, 9, 10, 11, 12, 13, 14, 15, 16, 17, 18, 19, 20, 21, 22, 23, 24] (by decide +kernel) (by decide +kernel)
set_option maxRecDepth 20000 in
theorem gX6_back_X6_refuses : GoodIn wsX6_back (wsV RX6 46 RX6 yX6_refuses wsX6_refuses) := goodIn_app (goodIn_of _ (by decide +kernel)) ggX6_back_X6_refuses
theorem dX6_back_0 : decode cX6_back 0 = .ok (.aload_n 0, 1) := by decide +kernel
theorem dX6_back_1 : decode cX6_back 1 = .ok (.getfield 38, 3) := by decide +kernel
theorem dX6_back_4 : decode cX6_back 4 = .ok (.ifCond .ne 10, 3) := by decide +kernel
theorem dX6_back_7 : decode cX6_back 7 = .ok (.aload_n 0, 1) := by decide +kernel
theorem dX6_back_8 : decode cX6_back 8 = .ok (.bipush (-3), 2) := by decide +kernel
theorem dX6_back_10 : decode cX6_back 10 = .ok (.invokevirtual 46, 3) := by decide +kernel
theorem dX6_back_13 : decode cX6_back 13 = .ok (.ireturn, 1) := by decide +kernel
theorem dX6_back_14 : decode cX6_back 14 = .ok (.aload_n 0, 1) := by decide +kernel
theorem dX6_back_15 : decode cX6_back 15 = .ok (.dup, 1) := by decide +kernel
theorem dX6_back_16 : decode cX6_back 16 = .ok (.getfield 38, 3) := by decide +kernel
theorem dX6_back_19 : decode cX6_back 19 = .ok (.iconst 1, 1) := by decide +kernel
theorem dX6_back_20 : decode cX6_back 20 = .ok (.isub, 1) := by decide +kernel
theorem dX6_back_21 : decode cX6_back 21 = .ok (.putfield 38, 3) := by decide +kernel
theorem dX6_back_24 : decode cX6_back 24 = .ok (.iconst 0, 1) := by decide +kernel
theorem dX6_back_25 : decode cX6_back 25 = .ok (.istore_n 1, 1) := by decide +kernel
theorem dX6_back_26 : decode cX6_back 26 = .ok (.iload_n 1, 1) := by decide +kernel
theorem dX6_back_27 : decode cX6_back 27 = .ok (.bipush 123, 2) := by decide +kernel
theorem dX6_back_29 : decode cX6_back 29 = .ok (.if_icmp .ge 29, 3) := by decide +kernel
theorem dX6_back_32 : decode cX6_back 32 = .ok (.aload_n 0, 1) := by decide +kernel
theorem dX6_back_33 : decode cX6_back 33 = .ok (.getfield 7, 3) := by decide +kernel
theorem dX6_back_36 : decode cX6_back 36 = .ok (.iload_n 1, 1) := by decide +kernel
theorem dX6_back_37 : decode cX6_back 37 = .ok (.aload_n 0, 1) := by decide +kernel
theorem dX6_back_38 : decode cX6_back 38 = .ok (.getfield 16, 3) := by decide +kernel
theorem dX6_back_41 : decode cX6_back 41 = .ok (.bipush 123, 2) := by decide +kernel
theorem dX6_back_43 : decode cX6_back 43 = .ok (.aload_n 0, 1) := by decide +kernel
theorem dX6_back_44 : decode cX6_back 44 = .ok (.getfield 38, 3) := by decide +kernel
theorem dX6_back_47 : decode cX6_back 47 = .ok (.imul, 1) := by decide +kernel
theorem dX6_back_48 : decode cX6_back 48 = .ok (.iload_n 1, 1) := by decide +kernel
theorem dX6_back_49 : decode cX6_back 49 = .ok (.iadd, 1) := by decide +kernel
theorem dX6_back_50 : decode cX6_back 50 = .ok (.iaload, 1) := by decide +kernel
theorem dX6_back_51 : decode cX6_back 51 = .ok (.iastore, 1) := by decide +kernel
theorem dX6_back_52 : decode cX6_back 52 = .ok (.iinc 1 1, 3) := by decide +kernel
theorem dX6_back_55 : decode cX6_back 55 = .ok (.goto (-29), 3) := by decide +kernel
theorem dX6_back_58 : decode cX6_back 58 = .ok (.aload_n 0, 1) := by decide +kernel
theorem dX6_back_59 : decode cX6_back 59 = .ok (.getfield 38, 3) := by decide +kernel
theorem dX6_back_62 : decode cX6_back 62 = .ok (.ireturn, 1) := by decide +kernel
set_option maxRecDepth 20000 in
theorem ggX6_isShaft_X6_in : GoodIn wsX6_isShaft wsX6_in := goodIn_r _ [5] (by decide +kernel) (by decide +kernel)
set_option maxRecDepth 20000 in
theorem gX6_isShaft_X6_in : GoodIn wsX6_isShaft (va_wsS RX6 53 yX6_in wsX6_in) := goodIn_app (goodIn_of _ (by decide +kernel)) ggX6_isShaft_X6_in
theorem dX6_isShaft_0 : decode cX6_isShaft 0 = .ok (.iload_n 1, 1) := by decide +kernel
theorem dX6_isShaft_1 : decode cX6_isShaft 1 = .ok (.iconst 0, 1) := by decide +kernel
theorem dX6_isShaft_2 : decode cX6_isShaft 2 = .ok (.aload_n 0, 1) := by decide +kernel
theorem dX6_isShaft_3 : decode cX6_isShaft 3 = .ok (.getfield 7, 3) := by decide +kernel
theorem dX6_isShaft_6 : decode cX6_isShaft 6 = .ok (.iconst 0, 1) := by decide +kernel
theorem dX6_isShaft_7 : decode cX6_isShaft 7 = .ok (.iaload, 1) := by decide +kernel
theorem dX6_isShaft_8 : decode cX6_isShaft 8 = .ok (.iconst 1, 1) := by decide +kernel
theorem dX6_isShaft_9 : decode cX6_isShaft 9 = .ok (.isub, 1) := by decide +kernel
theorem dX6_isShaft_10 : decode cX6_isShaft 10 = .ok (.invokestatic 53, 3) := by decide +kernel
theorem dX6_isShaft_13 : decode cX6_isShaft 13 = .ok (.ireturn, 1) := by decide +kernel
set_option maxRecDepth 20000 in
theorem ggX6_isPipe_X6_in : GoodIn wsX6_isPipe wsX6_in := goodIn_r _ [5] (by decide +kernel) (by decide +kernel)
set_option maxRecDepth 20000 in
theorem gX6_isPipe_X6_in : GoodIn wsX6_isPipe (va_wsS RX6 53 yX6_in wsX6_in) := goodIn_app (goodIn_of _ (by decide +kernel)) ggX6_isPipe_X6_in
theorem dX6_isPipe_0 : decode cX6_isPipe 0 = .ok (.iload_n 1, 1) := by decide +kernel
theorem dX6_isPipe_1 : decode cX6_isPipe 1 = .ok (.iconst 0, 1) := by decide +kernel
theorem dX6_isPipe_2 : decode cX6_isPipe 2 = .ok (.aload_n 0, 1) := by decide +kernel
theorem dX6_isPipe_3 : decode cX6_isPipe 3 = .ok (.getfield 7, 3) := by decide +kernel
theorem dX6_isPipe_6 : decode cX6_isPipe 6 = .ok (.iconst 1, 1) := by decide +kernel
theorem dX6_isPipe_7 : decode cX6_isPipe 7 = .ok (.iaload, 1) := by decide +kernel
theorem dX6_isPipe_8 : decode cX6_isPipe 8 = .ok (.iconst 1, 1) := by decide +kernel
theorem dX6_isPipe_9 : decode cX6_isPipe 9 = .ok (.isub, 1) := by decide +kernel
theorem dX6_isPipe_10 : decode cX6_isPipe 10 = .ok (.invokestatic 53, 3) := by decide +kernel
theorem dX6_isPipe_13 : decode cX6_isPipe 13 = .ok (.ireturn, 1) := by decide +kernel
theorem dX6_kindOf_0 : decode cX6_kindOf 0 = .ok (.aload_n 0, 1) := by decide +kernel
theorem dX6_kindOf_1 : decode cX6_kindOf 1 = .ok (.getfield 7, 3) := by decide +kernel
theorem dX6_kindOf_4 : decode cX6_kindOf 4 = .ok (.iconst 3, 1) := by decide +kernel
theorem dX6_kindOf_5 : decode cX6_kindOf 5 = .ok (.iconst 2, 1) := by decide +kernel
theorem dX6_kindOf_6 : decode cX6_kindOf 6 = .ok (.iload_n 1, 1) := by decide +kernel
theorem dX6_kindOf_7 : decode cX6_kindOf 7 = .ok (.imul, 1) := by decide +kernel
theorem dX6_kindOf_8 : decode cX6_kindOf 8 = .ok (.iadd, 1) := by decide +kernel
theorem dX6_kindOf_9 : decode cX6_kindOf 9 = .ok (.iaload, 1) := by decide +kernel
theorem dX6_kindOf_10 : decode cX6_kindOf 10 = .ok (.ireturn, 1) := by decide +kernel
theorem dX6_numberOf_0 : decode cX6_numberOf 0 = .ok (.aload_n 0, 1) := by decide +kernel
theorem dX6_numberOf_1 : decode cX6_numberOf 1 = .ok (.getfield 7, 3) := by decide +kernel
theorem dX6_numberOf_4 : decode cX6_numberOf 4 = .ok (.iconst 3, 1) := by decide +kernel
theorem dX6_numberOf_5 : decode cX6_numberOf 5 = .ok (.iconst 2, 1) := by decide +kernel
theorem dX6_numberOf_6 : decode cX6_numberOf 6 = .ok (.iload_n 1, 1) := by decide +kernel
theorem dX6_numberOf_7 : decode cX6_numberOf 7 = .ok (.imul, 1) := by decide +kernel
theorem dX6_numberOf_8 : decode cX6_numberOf 8 = .ok (.iadd, 1) := by decide +kernel
theorem dX6_numberOf_9 : decode cX6_numberOf 9 = .ok (.iconst 1, 1) := by decide +kernel
theorem dX6_numberOf_10 : decode cX6_numberOf 10 = .ok (.iadd, 1) := by decide +kernel
theorem dX6_numberOf_11 : decode cX6_numberOf 11 = .ok (.iaload, 1) := by decide +kernel
theorem dX6_numberOf_12 : decode cX6_numberOf 12 = .ok (.ireturn, 1) := by decide +kernel
theorem dX6_pipeOf_0 : decode cX6_pipeOf 0 = .ok (.aload_n 0, 1) := by decide +kernel
theorem dX6_pipeOf_1 : decode cX6_pipeOf 1 = .ok (.getfield 7, 3) := by decide +kernel
theorem dX6_pipeOf_4 : decode cX6_pipeOf 4 = .ok (.bipush 23, 2) := by decide +kernel
theorem dX6_pipeOf_6 : decode cX6_pipeOf 6 = .ok (.iconst 4, 1) := by decide +kernel
theorem dX6_pipeOf_7 : decode cX6_pipeOf 7 = .ok (.iload_n 1, 1) := by decide +kernel
theorem dX6_pipeOf_8 : decode cX6_pipeOf 8 = .ok (.imul, 1) := by decide +kernel
theorem dX6_pipeOf_9 : decode cX6_pipeOf 9 = .ok (.iadd, 1) := by decide +kernel
theorem dX6_pipeOf_10 : decode cX6_pipeOf 10 = .ok (.iload_n 2, 1) := by decide +kernel
theorem dX6_pipeOf_11 : decode cX6_pipeOf 11 = .ok (.iadd, 1) := by decide +kernel
theorem dX6_pipeOf_12 : decode cX6_pipeOf 12 = .ok (.iaload, 1) := by decide +kernel
theorem dX6_pipeOf_13 : decode cX6_pipeOf 13 = .ok (.ireturn, 1) := by decide +kernel
set_option maxRecDepth 20000 in
theorem ggX6_below_X6_pipeOf : GoodIn wsX6_below wsX6_pipeOf := goodIn_r _ [6, 1, 10, 11, 12, 13, 14, 15, 16, 17, 18, 19, 20, 21, 22, 23, 24] (by decide +kernel) (by decide +kernel)
set_option maxRecDepth 20000 in
theorem gX6_below_X6_pipeOf : GoodIn wsX6_below (wsV RX6 57 RX6 yX6_pipeOf wsX6_pipeOf) := goodIn_app (goodIn_of _ (by decide +kernel)) ggX6_below_X6_pipeOf
set_option maxRecDepth 20000 in
theorem ggX6_below_X6_has : GoodIn wsX6_below wsX6_has := goodIn_r _ [9] (by decide +kernel) (by decide +kernel)
set_option maxRecDepth 20000 in
theorem gX6_below_X6_has : GoodIn wsX6_below (va_wsS RX6 42 yX6_has wsX6_has) := goodIn_app (goodIn_of _ (by decide +kernel)) ggX6_below_X6_has
theorem dX6_below_0 : decode cX6_below 0 = .ok (.iconst 1, 1) := by decide +kernel
theorem dX6_below_1 : decode cX6_below 1 = .ok (.iload_n 1, 1) := by decide +kernel
theorem dX6_below_2 : decode cX6_below 2 = .ok (.ishl, 1) := by decide +kernel
theorem dX6_below_3 : decode cX6_below 3 = .ok (.istore_n 2, 1) := by decide +kernel
theorem dX6_below_4 : decode cX6_below 4 = .ok (.iconst 0, 1) := by decide +kernel
theorem dX6_below_5 : decode cX6_below 5 = .ok (.istore_n 3, 1) := by decide +kernel
theorem dX6_below_6 : decode cX6_below 6 = .ok (.iload_n 3, 1) := by decide +kernel
theorem dX6_below_7 : decode cX6_below 7 = .ok (.iload_n 2, 1) := by decide +kernel
theorem dX6_below_8 : decode cX6_below 8 = .ok (.if_icmp .eq 58, 3) := by decide +kernel
theorem dX6_below_11 : decode cX6_below 11 = .ok (.iload_n 2, 1) := by decide +kernel
theorem dX6_below_12 : decode cX6_below 12 = .ok (.istore_n 3, 1) := by decide +kernel
theorem dX6_below_13 : decode cX6_below 13 = .ok (.iconst 0, 1) := by decide +kernel
theorem dX6_below_14 : decode cX6_below 14 = .ok (.istore 4, 2) := by decide +kernel
theorem dX6_below_16 : decode cX6_below 16 = .ok (.iload 4, 2) := by decide +kernel
theorem dX6_below_18 : decode cX6_below 18 = .ok (.aload_n 0, 1) := by decide +kernel
theorem dX6_below_19 : decode cX6_below 19 = .ok (.getfield 7, 3) := by decide +kernel
theorem dX6_below_22 : decode cX6_below 22 = .ok (.iconst 1, 1) := by decide +kernel
theorem dX6_below_23 : decode cX6_below 23 = .ok (.iaload, 1) := by decide +kernel
theorem dX6_below_24 : decode cX6_below 24 = .ok (.if_icmp .ge 39, 3) := by decide +kernel
theorem dX6_below_27 : decode cX6_below 27 = .ok (.iload_n 2, 1) := by decide +kernel
theorem dX6_below_28 : decode cX6_below 28 = .ok (.iload_n 2, 1) := by decide +kernel
theorem dX6_below_29 : decode cX6_below 29 = .ok (.aload_n 0, 1) := by decide +kernel
theorem dX6_below_30 : decode cX6_below 30 = .ok (.iload 4, 2) := by decide +kernel
theorem dX6_below_32 : decode cX6_below 32 = .ok (.iconst 0, 1) := by decide +kernel
theorem dX6_below_33 : decode cX6_below 33 = .ok (.invokevirtual 57, 3) := by decide +kernel
theorem dX6_below_36 : decode cX6_below 36 = .ok (.invokestatic 42, 3) := by decide +kernel
theorem dX6_below_39 : decode cX6_below 39 = .ok (.ifCond .eq 15, 3) := by decide +kernel
theorem dX6_below_42 : decode cX6_below 42 = .ok (.iconst 1, 1) := by decide +kernel
theorem dX6_below_43 : decode cX6_below 43 = .ok (.aload_n 0, 1) := by decide +kernel
theorem dX6_below_44 : decode cX6_below 44 = .ok (.iload 4, 2) := by decide +kernel
theorem dX6_below_46 : decode cX6_below 46 = .ok (.iconst 1, 1) := by decide +kernel
theorem dX6_below_47 : decode cX6_below 47 = .ok (.invokevirtual 57, 3) := by decide +kernel
theorem dX6_below_50 : decode cX6_below 50 = .ok (.ishl, 1) := by decide +kernel
theorem dX6_below_51 : decode cX6_below 51 = .ok (.goto 4, 3) := by decide +kernel
theorem dX6_below_54 : decode cX6_below 54 = .ok (.iconst 0, 1) := by decide +kernel
theorem dX6_below_55 : decode cX6_below 55 = .ok (.ior, 1) := by decide +kernel
theorem dX6_below_56 : decode cX6_below 56 = .ok (.istore_n 2, 1) := by decide +kernel
theorem dX6_below_57 : decode cX6_below 57 = .ok (.iinc 4 1, 3) := by decide +kernel
theorem dX6_below_60 : decode cX6_below 60 = .ok (.goto (-44), 3) := by decide +kernel
theorem dX6_below_63 : decode cX6_below 63 = .ok (.goto (-57), 3) := by decide +kernel
theorem dX6_below_66 : decode cX6_below 66 = .ok (.iload_n 2, 1) := by decide +kernel
theorem dX6_below_67 : decode cX6_below 67 = .ok (.ireturn, 1) := by decide +kernel
set_option maxRecDepth 20000 in
theorem ggX6_isKind_X6_in : GoodIn wsX6_isKind wsX6_in := goodIn_r _ [4] (by decide +kernel) (by decide +kernel)
set_option maxRecDepth 20000 in
theorem gX6_isKind_X6_in : GoodIn wsX6_isKind (va_wsS RX6 53 yX6_in wsX6_in) := goodIn_app (goodIn_of _ (by decide +kernel)) ggX6_isKind_X6_in
theorem dX6_isKind_0 : decode cX6_isKind 0 = .ok (.iload_n 0, 1) := by decide +kernel
theorem dX6_isKind_1 : decode cX6_isKind 1 = .ok (.iconst 0, 1) := by decide +kernel
theorem dX6_isKind_2 : decode cX6_isKind 2 = .ok (.iconst 4, 1) := by decide +kernel
theorem dX6_isKind_3 : decode cX6_isKind 3 = .ok (.invokestatic 53, 3) := by decide +kernel
theorem dX6_isKind_6 : decode cX6_isKind 6 = .ok (.ireturn, 1) := by decide +kernel
set_option maxRecDepth 20000 in
theorem ggX6_doShaft_X6_isKind : GoodIn wsX6_doShaft wsX6_isKind := goodIn_r _ [5, 6, 7, 4, 8] (by decide +kernel) (by decide +kernel)
set_option maxRecDepth 20000 in
theorem gX6_doShaft_X6_isKind : GoodIn wsX6_doShaft (va_wsS RX6 61 yX6_isKind wsX6_isKind) := goodIn_app (goodIn_of _ (by decide +kernel)) ggX6_doShaft_X6_isKind
set_option maxRecDepth 20000 in
theorem ggX6_doShaft_X6_in : GoodIn wsX6_doShaft wsX6_in := goodIn_r _ [8] (by decide +kernel) (by decide +kernel)
set_option maxRecDepth 20000 in
theorem gX6_doShaft_X6_in : GoodIn wsX6_doShaft (va_wsS RX6 53 yX6_in wsX6_in) := goodIn_app (goodIn_of _ (by decide +kernel)) ggX6_doShaft_X6_in
theorem dX6_doShaft_0 : decode cX6_doShaft 0 = .ok (.iload_n 1, 1) := by decide +kernel
theorem dX6_doShaft_1 : decode cX6_doShaft 1 = .ok (.invokestatic 61, 3) := by decide +kernel
theorem dX6_doShaft_4 : decode cX6_doShaft 4 = .ok (.ifCond .eq 13, 3) := by decide +kernel
theorem dX6_doShaft_7 : decode cX6_doShaft 7 = .ok (.iload_n 2, 1) := by decide +kernel
theorem dX6_doShaft_8 : decode cX6_doShaft 8 = .ok (.iconst 1, 1) := by decide +kernel
theorem dX6_doShaft_9 : decode cX6_doShaft 9 = .ok (.bipush 15, 2) := by decide +kernel
theorem dX6_doShaft_11 : decode cX6_doShaft 11 = .ok (.invokestatic 53, 3) := by decide +kernel
theorem dX6_doShaft_14 : decode cX6_doShaft 14 = .ok (.ifCond .ne 6, 3) := by decide +kernel
theorem dX6_doShaft_17 : decode cX6_doShaft 17 = .ok (.bipush (-2), 2) := by decide +kernel
theorem dX6_doShaft_19 : decode cX6_doShaft 19 = .ok (.ireturn, 1) := by decide +kernel
theorem dX6_doShaft_20 : decode cX6_doShaft 20 = .ok (.aload_n 0, 1) := by decide +kernel
theorem dX6_doShaft_21 : decode cX6_doShaft 21 = .ok (.getfield 7, 3) := by decide +kernel
theorem dX6_doShaft_24 : decode cX6_doShaft 24 = .ok (.iconst 0, 1) := by decide +kernel
theorem dX6_doShaft_25 : decode cX6_doShaft 25 = .ok (.iaload, 1) := by decide +kernel
theorem dX6_doShaft_26 : decode cX6_doShaft 26 = .ok (.bipush 10, 2) := by decide +kernel
theorem dX6_doShaft_28 : decode cX6_doShaft 28 = .ok (.if_icmp .ne 6, 3) := by decide +kernel
theorem dX6_doShaft_31 : decode cX6_doShaft 31 = .ok (.bipush (-4), 2) := by decide +kernel
theorem dX6_doShaft_33 : decode cX6_doShaft 33 = .ok (.ireturn, 1) := by decide +kernel
theorem dX6_doShaft_34 : decode cX6_doShaft 34 = .ok (.aload_n 0, 1) := by decide +kernel
theorem dX6_doShaft_35 : decode cX6_doShaft 35 = .ok (.getfield 7, 3) := by decide +kernel
theorem dX6_doShaft_38 : decode cX6_doShaft 38 = .ok (.iconst 0, 1) := by decide +kernel
theorem dX6_doShaft_39 : decode cX6_doShaft 39 = .ok (.iaload, 1) := by decide +kernel
theorem dX6_doShaft_40 : decode cX6_doShaft 40 = .ok (.istore_n 3, 1) := by decide +kernel
theorem dX6_doShaft_41 : decode cX6_doShaft 41 = .ok (.aload_n 0, 1) := by decide +kernel
theorem dX6_doShaft_42 : decode cX6_doShaft 42 = .ok (.getfield 7, 3) := by decide +kernel
theorem dX6_doShaft_45 : decode cX6_doShaft 45 = .ok (.iconst 3, 1) := by decide +kernel
theorem dX6_doShaft_46 : decode cX6_doShaft 46 = .ok (.iconst 2, 1) := by decide +kernel
theorem dX6_doShaft_47 : decode cX6_doShaft 47 = .ok (.iload_n 3, 1) := by decide +kernel
theorem dX6_doShaft_48 : decode cX6_doShaft 48 = .ok (.imul, 1) := by decide +kernel
theorem dX6_doShaft_49 : decode cX6_doShaft 49 = .ok (.iadd, 1) := by decide +kernel
theorem dX6_doShaft_50 : decode cX6_doShaft 50 = .ok (.iload_n 1, 1) := by decide +kernel
theorem dX6_doShaft_51 : decode cX6_doShaft 51 = .ok (.iastore, 1) := by decide +kernel
theorem dX6_doShaft_52 : decode cX6_doShaft 52 = .ok (.aload_n 0, 1) := by decide +kernel
theorem dX6_doShaft_53 : decode cX6_doShaft 53 = .ok (.getfield 7, 3) := by decide +kernel
theorem dX6_doShaft_56 : decode cX6_doShaft 56 = .ok (.iconst 3, 1) := by decide +kernel
theorem dX6_doShaft_57 : decode cX6_doShaft 57 = .ok (.iconst 2, 1) := by decide +kernel
theorem dX6_doShaft_58 : decode cX6_doShaft 58 = .ok (.iload_n 3, 1) := by decide +kernel
theorem dX6_doShaft_59 : decode cX6_doShaft 59 = .ok (.imul, 1) := by decide +kernel
theorem dX6_doShaft_60 : decode cX6_doShaft 60 = .ok (.iadd, 1) := by decide +kernel
theorem dX6_doShaft_61 : decode cX6_doShaft 61 = .ok (.iconst 1, 1) := by decide +kernel
theorem dX6_doShaft_62 : decode cX6_doShaft 62 = .ok (.iadd, 1) := by decide +kernel
theorem dX6_doShaft_63 : decode cX6_doShaft 63 = .ok (.iload_n 2, 1) := by decide +kernel
theorem dX6_doShaft_64 : decode cX6_doShaft 64 = .ok (.iastore, 1) := by decide +kernel
theorem dX6_doShaft_65 : decode cX6_doShaft 65 = .ok (.aload_n 0, 1) := by decide +kernel
theorem dX6_doShaft_66 : decode cX6_doShaft 66 = .ok (.getfield 7, 3) := by decide +kernel
theorem dX6_doShaft_69 : decode cX6_doShaft 69 = .ok (.iconst 0, 1) := by decide +kernel
theorem dX6_doShaft_70 : decode cX6_doShaft 70 = .ok (.dup2, 1) := by decide +kernel
theorem dX6_doShaft_71 : decode cX6_doShaft 71 = .ok (.iaload, 1) := by decide +kernel
theorem dX6_doShaft_72 : decode cX6_doShaft 72 = .ok (.iconst 1, 1) := by decide +kernel
theorem dX6_doShaft_73 : decode cX6_doShaft 73 = .ok (.iadd, 1) := by decide +kernel
theorem dX6_doShaft_74 : decode cX6_doShaft 74 = .ok (.iastore, 1) := by decide +kernel
theorem dX6_doShaft_75 : decode cX6_doShaft 75 = .ok (.iload_n 3, 1) := by decide +kernel
theorem dX6_doShaft_76 : decode cX6_doShaft 76 = .ok (.ireturn, 1) := by decide +kernel
set_option maxRecDepth 20000 in
theorem ggX6_doSets_X6_isKind : GoodIn wsX6_doSets wsX6_isKind := goodIn_r _ [5, 6, 7, 4, 8] (by decide +kernel) (by decide +kernel)
set_option maxRecDepth 20000 in
theorem gX6_doSets_X6_isKind : GoodIn wsX6_doSets (va_wsS RX6 61 yX6_isKind wsX6_isKind) := goodIn_app (goodIn_of _ (by decide +kernel)) ggX6_doSets_X6_isKind
set_option maxRecDepth 20000 in
theorem ggX6_doSets_X6_in : GoodIn wsX6_doSets wsX6_in := goodIn_r _ [8] (by decide +kernel) (by decide +kernel)
set_option maxRecDepth 20000 in
theorem gX6_doSets_X6_in : GoodIn wsX6_doSets (va_wsS RX6 53 yX6_in wsX6_in) := goodIn_app (goodIn_of _ (by decide +kernel)) ggX6_doSets_X6_in
set_option maxRecDepth 20000 in
theorem ggX6_doSets_X6_isShaft : GoodIn wsX6_doSets wsX6_isShaft := goodIn_r _ [12, 1, 6, 7, 4, 8, 13, 14, 15, 16, 17, 18, 19, 20, 21, 22, 23, 24, 25, 26, 27] (by decide +kernel) (by decide +kernel)
set_option maxRecDepth 20000 in
theorem gX6_doSets_X6_isShaft : GoodIn wsX6_doSets (wsV RX6 65 RX6 yX6_isShaft wsX6_isShaft) := goodIn_app (goodIn_of _ (by decide +kernel)) ggX6_doSets_X6_isShaft
theorem dX6_doSets_0 : decode cX6_doSets 0 = .ok (.iload_n 2, 1) := by decide +kernel
theorem dX6_doSets_1 : decode cX6_doSets 1 = .ok (.ifCond .ne 10, 3) := by decide +kernel
theorem dX6_doSets_4 : decode cX6_doSets 4 = .ok (.iload_n 3, 1) := by decide +kernel
theorem dX6_doSets_5 : decode cX6_doSets 5 = .ok (.invokestatic 61, 3) := by decide +kernel
theorem dX6_doSets_8 : decode cX6_doSets 8 = .ok (.goto 23, 3) := by decide +kernel
theorem dX6_doSets_11 : decode cX6_doSets 11 = .ok (.iload_n 2, 1) := by decide +kernel
theorem dX6_doSets_12 : decode cX6_doSets 12 = .ok (.iconst 1, 1) := by decide +kernel
theorem dX6_doSets_13 : decode cX6_doSets 13 = .ok (.if_icmp .ne 17, 3) := by decide +kernel
theorem dX6_doSets_16 : decode cX6_doSets 16 = .ok (.iload_n 3, 1) := by decide +kernel
theorem dX6_doSets_17 : decode cX6_doSets 17 = .ok (.iconst 1, 1) := by decide +kernel
theorem dX6_doSets_18 : decode cX6_doSets 18 = .ok (.bipush 15, 2) := by decide +kernel
theorem dX6_doSets_20 : decode cX6_doSets 20 = .ok (.invokestatic 53, 3) := by decide +kernel
theorem dX6_doSets_23 : decode cX6_doSets 23 = .ok (.ifCond .eq 7, 3) := by decide +kernel
theorem dX6_doSets_26 : decode cX6_doSets 26 = .ok (.iconst 1, 1) := by decide +kernel
theorem dX6_doSets_27 : decode cX6_doSets 27 = .ok (.goto 4, 3) := by decide +kernel
theorem dX6_doSets_30 : decode cX6_doSets 30 = .ok (.iconst 0, 1) := by decide +kernel
theorem dX6_doSets_31 : decode cX6_doSets 31 = .ok (.istore 4, 2) := by decide +kernel
theorem dX6_doSets_33 : decode cX6_doSets 33 = .ok (.aload_n 0, 1) := by decide +kernel
theorem dX6_doSets_34 : decode cX6_doSets 34 = .ok (.iload_n 1, 1) := by decide +kernel
theorem dX6_doSets_35 : decode cX6_doSets 35 = .ok (.invokevirtual 65, 3) := by decide +kernel
theorem dX6_doSets_38 : decode cX6_doSets 38 = .ok (.ifCond .eq 8, 3) := by decide +kernel
theorem dX6_doSets_41 : decode cX6_doSets 41 = .ok (.iload 4, 2) := by decide +kernel
theorem dX6_doSets_43 : decode cX6_doSets 43 = .ok (.ifCond .ne 6, 3) := by decide +kernel
theorem dX6_doSets_46 : decode cX6_doSets 46 = .ok (.bipush (-2), 2) := by decide +kernel
theorem dX6_doSets_48 : decode cX6_doSets 48 = .ok (.ireturn, 1) := by decide +kernel
theorem dX6_doSets_49 : decode cX6_doSets 49 = .ok (.aload_n 0, 1) := by decide +kernel
theorem dX6_doSets_50 : decode cX6_doSets 50 = .ok (.getfield 7, 3) := by decide +kernel
theorem dX6_doSets_53 : decode cX6_doSets 53 = .ok (.iconst 3, 1) := by decide +kernel
theorem dX6_doSets_54 : decode cX6_doSets 54 = .ok (.iconst 2, 1) := by decide +kernel
theorem dX6_doSets_55 : decode cX6_doSets 55 = .ok (.iload_n 1, 1) := by decide +kernel
theorem dX6_doSets_56 : decode cX6_doSets 56 = .ok (.imul, 1) := by decide +kernel
theorem dX6_doSets_57 : decode cX6_doSets 57 = .ok (.iadd, 1) := by decide +kernel
theorem dX6_doSets_58 : decode cX6_doSets 58 = .ok (.iload_n 2, 1) := by decide +kernel
theorem dX6_doSets_59 : decode cX6_doSets 59 = .ok (.iadd, 1) := by decide +kernel
theorem dX6_doSets_60 : decode cX6_doSets 60 = .ok (.iaload, 1) := by decide +kernel
theorem dX6_doSets_61 : decode cX6_doSets 61 = .ok (.istore 5, 2) := by decide +kernel
theorem dX6_doSets_63 : decode cX6_doSets 63 = .ok (.aload_n 0, 1) := by decide +kernel
theorem dX6_doSets_64 : decode cX6_doSets 64 = .ok (.getfield 7, 3) := by decide +kernel
theorem dX6_doSets_67 : decode cX6_doSets 67 = .ok (.iconst 3, 1) := by decide +kernel
theorem dX6_doSets_68 : decode cX6_doSets 68 = .ok (.iconst 2, 1) := by decide +kernel
theorem dX6_doSets_69 : decode cX6_doSets 69 = .ok (.iload_n 1, 1) := by decide +kernel
theorem dX6_doSets_70 : decode cX6_doSets 70 = .ok (.imul, 1) := by decide +kernel
theorem dX6_doSets_71 : decode cX6_doSets 71 = .ok (.iadd, 1) := by decide +kernel
theorem dX6_doSets_72 : decode cX6_doSets 72 = .ok (.iload_n 2, 1) := by decide +kernel
theorem dX6_doSets_73 : decode cX6_doSets 73 = .ok (.iadd, 1) := by decide +kernel
theorem dX6_doSets_74 : decode cX6_doSets 74 = .ok (.iload_n 3, 1) := by decide +kernel
theorem dX6_doSets_75 : decode cX6_doSets 75 = .ok (.iastore, 1) := by decide +kernel
theorem dX6_doSets_76 : decode cX6_doSets 76 = .ok (.iload 5, 2) := by decide +kernel
theorem dX6_doSets_78 : decode cX6_doSets 78 = .ok (.ireturn, 1) := by decide +kernel
set_option maxRecDepth 20000 in
theorem ggX6_doPipe_X6_isShaft : GoodIn wsX6_doPipe wsX6_isShaft := goodIn_r _ [6, 1, 7, 8, 5, 9, 21, 22, 23, 24, 25, 26, 27, 28, 29, 30, 31, 32, 33, 34, 35] (by decide +kernel) (by decide +kernel)
set_option maxRecDepth 20000 in
theorem gX6_doPipe_X6_isShaft : GoodIn wsX6_doPipe (wsV RX6 65 RX6 yX6_isShaft wsX6_isShaft) := goodIn_app (goodIn_of _ (by decide +kernel)) ggX6_doPipe_X6_isShaft
set_option maxRecDepth 20000 in
theorem ggX6_doPipe_X6_in : GoodIn wsX6_doPipe wsX6_in := goodIn_r _ [9] (by decide +kernel) (by decide +kernel)
set_option maxRecDepth 20000 in
theorem gX6_doPipe_X6_in : GoodIn wsX6_doPipe (va_wsS RX6 53 yX6_in wsX6_in) := goodIn_app (goodIn_of _ (by decide +kernel)) ggX6_doPipe_X6_in
set_option maxRecDepth 20000 in
theorem ggX6_doPipe_X6_below : GoodIn wsX6_doPipe wsX6_below := goodIn_r _ [13, 1, 14, 15, 16, 5, 17, 18, 19, 20, 21, 22, 23, 24, 25, 26, 27, 28, 29, 30, 31, 32, 33, 34, 35] (by decide +kernel) (by decide +kernel)
set_option maxRecDepth 20000 in
theorem gX6_doPipe_X6_below : GoodIn wsX6_doPipe (wsV RX6 68 RX6 yX6_below wsX6_below) := goodIn_app (goodIn_of _ (by decide +kernel)) ggX6_doPipe_X6_below
set_option maxRecDepth 20000 in
theorem ggX6_doPipe_X6_has : GoodIn wsX6_doPipe wsX6_has := goodIn_r _ [20] (by decide +kernel) (by decide +kernel)
set_option maxRecDepth 20000 in
theorem gX6_doPipe_X6_has : GoodIn wsX6_doPipe (va_wsS RX6 42 yX6_has wsX6_has) := goodIn_app (goodIn_of _ (by decide +kernel)) ggX6_doPipe_X6_has
theorem dX6_doPipe_0 : decode cX6_doPipe 0 = .ok (.aload_n 0, 1) := by decide +kernel
theorem dX6_doPipe_1 : decode cX6_doPipe 1 = .ok (.iload_n 1, 1) := by decide +kernel
theorem dX6_doPipe_2 : decode cX6_doPipe 2 = .ok (.invokevirtual 65, 3) := by decide +kernel
theorem dX6_doPipe_5 : decode cX6_doPipe 5 = .ok (.ifCond .eq 37, 3) := by decide +kernel
theorem dX6_doPipe_8 : decode cX6_doPipe 8 = .ok (.aload_n 0, 1) := by decide +kernel
theorem dX6_doPipe_9 : decode cX6_doPipe 9 = .ok (.iload_n 2, 1) := by decide +kernel
theorem dX6_doPipe_10 : decode cX6_doPipe 10 = .ok (.invokevirtual 65, 3) := by decide +kernel
theorem dX6_doPipe_13 : decode cX6_doPipe 13 = .ok (.ifCond .eq 29, 3) := by decide +kernel
theorem dX6_doPipe_16 : decode cX6_doPipe 16 = .ok (.iload_n 1, 1) := by decide +kernel
theorem dX6_doPipe_17 : decode cX6_doPipe 17 = .ok (.iload_n 2, 1) := by decide +kernel
theorem dX6_doPipe_18 : decode cX6_doPipe 18 = .ok (.if_icmp .eq 24, 3) := by decide +kernel
theorem dX6_doPipe_21 : decode cX6_doPipe 21 = .ok (.iload_n 3, 1) := by decide +kernel
theorem dX6_doPipe_22 : decode cX6_doPipe 22 = .ok (.iconst 0, 1) := by decide +kernel
theorem dX6_doPipe_23 : decode cX6_doPipe 23 = .ok (.bipush 9, 2) := by decide +kernel
theorem dX6_doPipe_25 : decode cX6_doPipe 25 = .ok (.invokestatic 53, 3) := by decide +kernel
theorem dX6_doPipe_28 : decode cX6_doPipe 28 = .ok (.ifCond .eq 14, 3) := by decide +kernel
theorem dX6_doPipe_31 : decode cX6_doPipe 31 = .ok (.iload 4, 2) := by decide +kernel
theorem dX6_doPipe_33 : decode cX6_doPipe 33 = .ok (.iload_n 3, 1) := by decide +kernel
theorem dX6_doPipe_34 : decode cX6_doPipe 34 = .ok (.bipush 9, 2) := by decide +kernel
theorem dX6_doPipe_36 : decode cX6_doPipe 36 = .ok (.invokestatic 53, 3) := by decide +kernel
theorem dX6_doPipe_39 : decode cX6_doPipe 39 = .ok (.ifCond .ne 6, 3) := by decide +kernel
theorem dX6_doPipe_42 : decode cX6_doPipe 42 = .ok (.bipush (-2), 2) := by decide +kernel
theorem dX6_doPipe_44 : decode cX6_doPipe 44 = .ok (.ireturn, 1) := by decide +kernel
theorem dX6_doPipe_45 : decode cX6_doPipe 45 = .ok (.aload_n 0, 1) := by decide +kernel
theorem dX6_doPipe_46 : decode cX6_doPipe 46 = .ok (.iload_n 2, 1) := by decide +kernel
theorem dX6_doPipe_47 : decode cX6_doPipe 47 = .ok (.invokevirtual 68, 3) := by decide +kernel
theorem dX6_doPipe_50 : decode cX6_doPipe 50 = .ok (.iload_n 1, 1) := by decide +kernel
theorem dX6_doPipe_51 : decode cX6_doPipe 51 = .ok (.invokestatic 42, 3) := by decide +kernel
theorem dX6_doPipe_54 : decode cX6_doPipe 54 = .ok (.ifCond .eq 6, 3) := by decide +kernel
theorem dX6_doPipe_57 : decode cX6_doPipe 57 = .ok (.bipush (-3), 2) := by decide +kernel
theorem dX6_doPipe_59 : decode cX6_doPipe 59 = .ok (.ireturn, 1) := by decide +kernel
theorem dX6_doPipe_60 : decode cX6_doPipe 60 = .ok (.aload_n 0, 1) := by decide +kernel
theorem dX6_doPipe_61 : decode cX6_doPipe 61 = .ok (.getfield 7, 3) := by decide +kernel
theorem dX6_doPipe_64 : decode cX6_doPipe 64 = .ok (.iconst 1, 1) := by decide +kernel
theorem dX6_doPipe_65 : decode cX6_doPipe 65 = .ok (.iaload, 1) := by decide +kernel
theorem dX6_doPipe_66 : decode cX6_doPipe 66 = .ok (.bipush 16, 2) := by decide +kernel
theorem dX6_doPipe_68 : decode cX6_doPipe 68 = .ok (.if_icmp .ne 6, 3) := by decide +kernel
theorem dX6_doPipe_71 : decode cX6_doPipe 71 = .ok (.bipush (-4), 2) := by decide +kernel
theorem dX6_doPipe_73 : decode cX6_doPipe 73 = .ok (.ireturn, 1) := by decide +kernel
theorem dX6_doPipe_74 : decode cX6_doPipe 74 = .ok (.bipush 23, 2) := by decide +kernel
theorem dX6_doPipe_76 : decode cX6_doPipe 76 = .ok (.iconst 4, 1) := by decide +kernel
theorem dX6_doPipe_77 : decode cX6_doPipe 77 = .ok (.aload_n 0, 1) := by decide +kernel
theorem dX6_doPipe_78 : decode cX6_doPipe 78 = .ok (.getfield 7, 3) := by decide +kernel
theorem dX6_doPipe_81 : decode cX6_doPipe 81 = .ok (.iconst 1, 1) := by decide +kernel
theorem dX6_doPipe_82 : decode cX6_doPipe 82 = .ok (.iaload, 1) := by decide +kernel
theorem dX6_doPipe_83 : decode cX6_doPipe 83 = .ok (.imul, 1) := by decide +kernel
theorem dX6_doPipe_84 : decode cX6_doPipe 84 = .ok (.iadd, 1) := by decide +kernel
theorem dX6_doPipe_85 : decode cX6_doPipe 85 = .ok (.istore 5, 2) := by decide +kernel
theorem dX6_doPipe_87 : decode cX6_doPipe 87 = .ok (.aload_n 0, 1) := by decide +kernel
theorem dX6_doPipe_88 : decode cX6_doPipe 88 = .ok (.getfield 7, 3) := by decide +kernel
theorem dX6_doPipe_91 : decode cX6_doPipe 91 = .ok (.iload 5, 2) := by decide +kernel
theorem dX6_doPipe_93 : decode cX6_doPipe 93 = .ok (.iload_n 1, 1) := by decide +kernel
theorem dX6_doPipe_94 : decode cX6_doPipe 94 = .ok (.iastore, 1) := by decide +kernel
theorem dX6_doPipe_95 : decode cX6_doPipe 95 = .ok (.aload_n 0, 1) := by decide +kernel
theorem dX6_doPipe_96 : decode cX6_doPipe 96 = .ok (.getfield 7, 3) := by decide +kernel
theorem dX6_doPipe_99 : decode cX6_doPipe 99 = .ok (.iload 5, 2) := by decide +kernel
theorem dX6_doPipe_101 : decode cX6_doPipe 101 = .ok (.iconst 1, 1) := by decide +kernel
theorem dX6_doPipe_102 : decode cX6_doPipe 102 = .ok (.iadd, 1) := by decide +kernel
theorem dX6_doPipe_103 : decode cX6_doPipe 103 = .ok (.iload_n 2, 1) := by decide +kernel
theorem dX6_doPipe_104 : decode cX6_doPipe 104 = .ok (.iastore, 1) := by decide +kernel
theorem dX6_doPipe_105 : decode cX6_doPipe 105 = .ok (.aload_n 0, 1) := by decide +kernel
theorem dX6_doPipe_106 : decode cX6_doPipe 106 = .ok (.getfield 7, 3) := by decide +kernel
theorem dX6_doPipe_109 : decode cX6_doPipe 109 = .ok (.iload 5, 2) := by decide +kernel
theorem dX6_doPipe_111 : decode cX6_doPipe 111 = .ok (.iconst 2, 1) := by decide +kernel
theorem dX6_doPipe_112 : decode cX6_doPipe 112 = .ok (.iadd, 1) := by decide +kernel
theorem dX6_doPipe_113 : decode cX6_doPipe 113 = .ok (.iload_n 3, 1) := by decide +kernel
theorem dX6_doPipe_114 : decode cX6_doPipe 114 = .ok (.iastore, 1) := by decide +kernel
theorem dX6_doPipe_115 : decode cX6_doPipe 115 = .ok (.aload_n 0, 1) := by decide +kernel
theorem dX6_doPipe_116 : decode cX6_doPipe 116 = .ok (.getfield 7, 3) := by decide +kernel
theorem dX6_doPipe_119 : decode cX6_doPipe 119 = .ok (.iload 5, 2) := by decide +kernel
theorem dX6_doPipe_121 : decode cX6_doPipe 121 = .ok (.iconst 3, 1) := by decide +kernel
theorem dX6_doPipe_122 : decode cX6_doPipe 122 = .ok (.iadd, 1) := by decide +kernel
theorem dX6_doPipe_123 : decode cX6_doPipe 123 = .ok (.iload 4, 2) := by decide +kernel
theorem dX6_doPipe_125 : decode cX6_doPipe 125 = .ok (.iastore, 1) := by decide +kernel
theorem dX6_doPipe_126 : decode cX6_doPipe 126 = .ok (.aload_n 0, 1) := by decide +kernel
theorem dX6_doPipe_127 : decode cX6_doPipe 127 = .ok (.getfield 7, 3) := by decide +kernel
theorem dX6_doPipe_130 : decode cX6_doPipe 130 = .ok (.iconst 1, 1) := by decide +kernel
theorem dX6_doPipe_131 : decode cX6_doPipe 131 = .ok (.dup2, 1) := by decide +kernel
theorem dX6_doPipe_132 : decode cX6_doPipe 132 = .ok (.iaload, 1) := by decide +kernel
theorem dX6_doPipe_133 : decode cX6_doPipe 133 = .ok (.iconst 1, 1) := by decide +kernel
theorem dX6_doPipe_134 : decode cX6_doPipe 134 = .ok (.iadd, 1) := by decide +kernel
theorem dX6_doPipe_135 : decode cX6_doPipe 135 = .ok (.iastore, 1) := by decide +kernel
theorem dX6_doPipe_136 : decode cX6_doPipe 136 = .ok (.aload_n 0, 1) := by decide +kernel
theorem dX6_doPipe_137 : decode cX6_doPipe 137 = .ok (.getfield 7, 3) := by decide +kernel
theorem dX6_doPipe_140 : decode cX6_doPipe 140 = .ok (.iconst 1, 1) := by decide +kernel
theorem dX6_doPipe_141 : decode cX6_doPipe 141 = .ok (.iaload, 1) := by decide +kernel
theorem dX6_doPipe_142 : decode cX6_doPipe 142 = .ok (.iconst 1, 1) := by decide +kernel
theorem dX6_doPipe_143 : decode cX6_doPipe 143 = .ok (.isub, 1) := by decide +kernel
theorem dX6_doPipe_144 : decode cX6_doPipe 144 = .ok (.ireturn, 1) := by decide +kernel
set_option maxRecDepth 20000 in
theorem ggX6_doDrops_X6_isPipe : GoodIn wsX6_doDrops wsX6_isPipe := goodIn_r _ [6, 1, 7, 8, 5, 9, 10, 11, 12, 13, 14, 15, 16, 17, 18, 19, 20, 21, 22, 23, 24] (by decide +kernel) (by decide +kernel)
set_option maxRecDepth 20000 in
theorem gX6_doDrops_X6_isPipe : GoodIn wsX6_doDrops (wsV RX6 71 RX6 yX6_isPipe wsX6_isPipe) := goodIn_app (goodIn_of _ (by decide +kernel)) ggX6_doDrops_X6_isPipe
theorem dX6_doDrops_0 : decode cX6_doDrops 0 = .ok (.aload_n 0, 1) := by decide +kernel
theorem dX6_doDrops_1 : decode cX6_doDrops 1 = .ok (.iload_n 1, 1) := by decide +kernel
theorem dX6_doDrops_2 : decode cX6_doDrops 2 = .ok (.invokevirtual 71, 3) := by decide +kernel
theorem dX6_doDrops_5 : decode cX6_doDrops 5 = .ok (.ifCond .ne 6, 3) := by decide +kernel
theorem dX6_doDrops_8 : decode cX6_doDrops 8 = .ok (.bipush (-2), 2) := by decide +kernel
theorem dX6_doDrops_10 : decode cX6_doDrops 10 = .ok (.ireturn, 1) := by decide +kernel
theorem dX6_doDrops_11 : decode cX6_doDrops 11 = .ok (.aload_n 0, 1) := by decide +kernel
theorem dX6_doDrops_12 : decode cX6_doDrops 12 = .ok (.getfield 7, 3) := by decide +kernel
theorem dX6_doDrops_15 : decode cX6_doDrops 15 = .ok (.iconst 1, 1) := by decide +kernel
theorem dX6_doDrops_16 : decode cX6_doDrops 16 = .ok (.dup2, 1) := by decide +kernel
theorem dX6_doDrops_17 : decode cX6_doDrops 17 = .ok (.iaload, 1) := by decide +kernel
theorem dX6_doDrops_18 : decode cX6_doDrops 18 = .ok (.iconst 1, 1) := by decide +kernel
theorem dX6_doDrops_19 : decode cX6_doDrops 19 = .ok (.isub, 1) := by decide +kernel
theorem dX6_doDrops_20 : decode cX6_doDrops 20 = .ok (.iastore, 1) := by decide +kernel
theorem dX6_doDrops_21 : decode cX6_doDrops 21 = .ok (.bipush 23, 2) := by decide +kernel
theorem dX6_doDrops_23 : decode cX6_doDrops 23 = .ok (.iconst 4, 1) := by decide +kernel
theorem dX6_doDrops_24 : decode cX6_doDrops 24 = .ok (.iload_n 1, 1) := by decide +kernel
theorem dX6_doDrops_25 : decode cX6_doDrops 25 = .ok (.imul, 1) := by decide +kernel
theorem dX6_doDrops_26 : decode cX6_doDrops 26 = .ok (.iadd, 1) := by decide +kernel
theorem dX6_doDrops_27 : decode cX6_doDrops 27 = .ok (.istore_n 2, 1) := by decide +kernel
theorem dX6_doDrops_28 : decode cX6_doDrops 28 = .ok (.iload_n 2, 1) := by decide +kernel
theorem dX6_doDrops_29 : decode cX6_doDrops 29 = .ok (.bipush 23, 2) := by decide +kernel
theorem dX6_doDrops_31 : decode cX6_doDrops 31 = .ok (.iconst 4, 1) := by decide +kernel
theorem dX6_doDrops_32 : decode cX6_doDrops 32 = .ok (.aload_n 0, 1) := by decide +kernel
theorem dX6_doDrops_33 : decode cX6_doDrops 33 = .ok (.getfield 7, 3) := by decide +kernel
theorem dX6_doDrops_36 : decode cX6_doDrops 36 = .ok (.iconst 1, 1) := by decide +kernel
theorem dX6_doDrops_37 : decode cX6_doDrops 37 = .ok (.iaload, 1) := by decide +kernel
theorem dX6_doDrops_38 : decode cX6_doDrops 38 = .ok (.imul, 1) := by decide +kernel
theorem dX6_doDrops_39 : decode cX6_doDrops 39 = .ok (.iadd, 1) := by decide +kernel
theorem dX6_doDrops_40 : decode cX6_doDrops 40 = .ok (.if_icmp .ge 23, 3) := by decide +kernel
theorem dX6_doDrops_43 : decode cX6_doDrops 43 = .ok (.aload_n 0, 1) := by decide +kernel
theorem dX6_doDrops_44 : decode cX6_doDrops 44 = .ok (.getfield 7, 3) := by decide +kernel
theorem dX6_doDrops_47 : decode cX6_doDrops 47 = .ok (.iload_n 2, 1) := by decide +kernel
theorem dX6_doDrops_48 : decode cX6_doDrops 48 = .ok (.aload_n 0, 1) := by decide +kernel
theorem dX6_doDrops_49 : decode cX6_doDrops 49 = .ok (.getfield 7, 3) := by decide +kernel
theorem dX6_doDrops_52 : decode cX6_doDrops 52 = .ok (.iload_n 2, 1) := by decide +kernel
theorem dX6_doDrops_53 : decode cX6_doDrops 53 = .ok (.iconst 4, 1) := by decide +kernel
theorem dX6_doDrops_54 : decode cX6_doDrops 54 = .ok (.iadd, 1) := by decide +kernel
theorem dX6_doDrops_55 : decode cX6_doDrops 55 = .ok (.iaload, 1) := by decide +kernel
theorem dX6_doDrops_56 : decode cX6_doDrops 56 = .ok (.iastore, 1) := by decide +kernel
theorem dX6_doDrops_57 : decode cX6_doDrops 57 = .ok (.iinc 2 1, 3) := by decide +kernel
theorem dX6_doDrops_60 : decode cX6_doDrops 60 = .ok (.goto (-32), 3) := by decide +kernel
theorem dX6_doDrops_63 : decode cX6_doDrops 63 = .ok (.aload_n 0, 1) := by decide +kernel
theorem dX6_doDrops_64 : decode cX6_doDrops 64 = .ok (.getfield 7, 3) := by decide +kernel
theorem dX6_doDrops_67 : decode cX6_doDrops 67 = .ok (.iconst 1, 1) := by decide +kernel
theorem dX6_doDrops_68 : decode cX6_doDrops 68 = .ok (.iaload, 1) := by decide +kernel
theorem dX6_doDrops_69 : decode cX6_doDrops 69 = .ok (.ireturn, 1) := by decide +kernel
set_option maxRecDepth 20000 in
theorem ggX6_doSight_X6_in : GoodIn wsX6_doSight wsX6_in := goodIn_r _ [5] (by decide +kernel) (by decide +kernel)
set_option maxRecDepth 20000 in
theorem gX6_doSight_X6_in : GoodIn wsX6_doSight (va_wsS RX6 53 yX6_in wsX6_in) := goodIn_app (goodIn_of _ (by decide +kernel)) ggX6_doSight_X6_in
set_option maxRecDepth 20000 in
theorem ggX6_doSight_X6_isShaft : GoodIn wsX6_doSight wsX6_isShaft := goodIn_r _ [9, 1, 2, 3, 4, 5, 10, 11, 12, 13, 14, 15, 16, 17, 18, 19, 20, 21, 22, 23, 24] (by decide +kernel) (by decide +kernel)
set_option maxRecDepth 20000 in
theorem gX6_doSight_X6_isShaft : GoodIn wsX6_doSight (wsV RX6 65 RX6 yX6_isShaft wsX6_isShaft) := goodIn_app (goodIn_of _ (by decide +kernel)) ggX6_doSight_X6_isShaft
theorem dX6_doSight_0 : decode cX6_doSight 0 = .ok (.iload_n 1, 1) := by decide +kernel
theorem dX6_doSight_1 : decode cX6_doSight 1 = .ok (.iconst 0, 1) := by decide +kernel
theorem dX6_doSight_2 : decode cX6_doSight 2 = .ok (.iconst 1, 1) := by decide +kernel
theorem dX6_doSight_3 : decode cX6_doSight 3 = .ok (.invokestatic 53, 3) := by decide +kernel
theorem dX6_doSight_6 : decode cX6_doSight 6 = .ok (.ifCond .eq 21, 3) := by decide +kernel
theorem dX6_doSight_9 : decode cX6_doSight 9 = .ok (.aload_n 0, 1) := by decide +kernel
theorem dX6_doSight_10 : decode cX6_doSight 10 = .ok (.iload_n 2, 1) := by decide +kernel
theorem dX6_doSight_11 : decode cX6_doSight 11 = .ok (.invokevirtual 65, 3) := by decide +kernel
theorem dX6_doSight_14 : decode cX6_doSight 14 = .ok (.ifCond .eq 13, 3) := by decide +kernel
theorem dX6_doSight_17 : decode cX6_doSight 17 = .ok (.iload_n 3, 1) := by decide +kernel
theorem dX6_doSight_18 : decode cX6_doSight 18 = .ok (.iconst 0, 1) := by decide +kernel
theorem dX6_doSight_19 : decode cX6_doSight 19 = .ok (.bipush 62, 2) := by decide +kernel
theorem dX6_doSight_21 : decode cX6_doSight 21 = .ok (.invokestatic 53, 3) := by decide +kernel
theorem dX6_doSight_24 : decode cX6_doSight 24 = .ok (.ifCond .ne 6, 3) := by decide +kernel
theorem dX6_doSight_27 : decode cX6_doSight 27 = .ok (.bipush (-2), 2) := by decide +kernel
theorem dX6_doSight_29 : decode cX6_doSight 29 = .ok (.ireturn, 1) := by decide +kernel
theorem dX6_doSight_30 : decode cX6_doSight 30 = .ok (.aload_n 0, 1) := by decide +kernel
theorem dX6_doSight_31 : decode cX6_doSight 31 = .ok (.getfield 7, 3) := by decide +kernel
theorem dX6_doSight_34 : decode cX6_doSight 34 = .ok (.iconst 2, 1) := by decide +kernel
theorem dX6_doSight_35 : decode cX6_doSight 35 = .ok (.iaload, 1) := by decide +kernel
theorem dX6_doSight_36 : decode cX6_doSight 36 = .ok (.bipush 12, 2) := by decide +kernel
theorem dX6_doSight_38 : decode cX6_doSight 38 = .ok (.if_icmp .ne 6, 3) := by decide +kernel
theorem dX6_doSight_41 : decode cX6_doSight 41 = .ok (.bipush (-4), 2) := by decide +kernel
theorem dX6_doSight_43 : decode cX6_doSight 43 = .ok (.ireturn, 1) := by decide +kernel
theorem dX6_doSight_44 : decode cX6_doSight 44 = .ok (.bipush 87, 2) := by decide +kernel
theorem dX6_doSight_46 : decode cX6_doSight 46 = .ok (.iconst 3, 1) := by decide +kernel
theorem dX6_doSight_47 : decode cX6_doSight 47 = .ok (.aload_n 0, 1) := by decide +kernel
theorem dX6_doSight_48 : decode cX6_doSight 48 = .ok (.getfield 7, 3) := by decide +kernel
theorem dX6_doSight_51 : decode cX6_doSight 51 = .ok (.iconst 2, 1) := by decide +kernel
theorem dX6_doSight_52 : decode cX6_doSight 52 = .ok (.iaload, 1) := by decide +kernel
theorem dX6_doSight_53 : decode cX6_doSight 53 = .ok (.imul, 1) := by decide +kernel
theorem dX6_doSight_54 : decode cX6_doSight 54 = .ok (.iadd, 1) := by decide +kernel
theorem dX6_doSight_55 : decode cX6_doSight 55 = .ok (.istore 4, 2) := by decide +kernel
theorem dX6_doSight_57 : decode cX6_doSight 57 = .ok (.aload_n 0, 1) := by decide +kernel
theorem dX6_doSight_58 : decode cX6_doSight 58 = .ok (.getfield 7, 3) := by decide +kernel
theorem dX6_doSight_61 : decode cX6_doSight 61 = .ok (.iload 4, 2) := by decide +kernel
theorem dX6_doSight_63 : decode cX6_doSight 63 = .ok (.iload_n 1, 1) := by decide +kernel
theorem dX6_doSight_64 : decode cX6_doSight 64 = .ok (.iastore, 1) := by decide +kernel
theorem dX6_doSight_65 : decode cX6_doSight 65 = .ok (.aload_n 0, 1) := by decide +kernel
theorem dX6_doSight_66 : decode cX6_doSight 66 = .ok (.getfield 7, 3) := by decide +kernel
theorem dX6_doSight_69 : decode cX6_doSight 69 = .ok (.iload 4, 2) := by decide +kernel
theorem dX6_doSight_71 : decode cX6_doSight 71 = .ok (.iconst 1, 1) := by decide +kernel
theorem dX6_doSight_72 : decode cX6_doSight 72 = .ok (.iadd, 1) := by decide +kernel
theorem dX6_doSight_73 : decode cX6_doSight 73 = .ok (.iload_n 2, 1) := by decide +kernel
theorem dX6_doSight_74 : decode cX6_doSight 74 = .ok (.iastore, 1) := by decide +kernel
theorem dX6_doSight_75 : decode cX6_doSight 75 = .ok (.aload_n 0, 1) := by decide +kernel
theorem dX6_doSight_76 : decode cX6_doSight 76 = .ok (.getfield 7, 3) := by decide +kernel
theorem dX6_doSight_79 : decode cX6_doSight 79 = .ok (.iload 4, 2) := by decide +kernel
theorem dX6_doSight_81 : decode cX6_doSight 81 = .ok (.iconst 2, 1) := by decide +kernel
theorem dX6_doSight_82 : decode cX6_doSight 82 = .ok (.iadd, 1) := by decide +kernel
theorem dX6_doSight_83 : decode cX6_doSight 83 = .ok (.iload_n 3, 1) := by decide +kernel
theorem dX6_doSight_84 : decode cX6_doSight 84 = .ok (.iastore, 1) := by decide +kernel
theorem dX6_doSight_85 : decode cX6_doSight 85 = .ok (.aload_n 0, 1) := by decide +kernel
theorem dX6_doSight_86 : decode cX6_doSight 86 = .ok (.getfield 7, 3) := by decide +kernel
theorem dX6_doSight_89 : decode cX6_doSight 89 = .ok (.iconst 2, 1) := by decide +kernel
theorem dX6_doSight_90 : decode cX6_doSight 90 = .ok (.dup2, 1) := by decide +kernel
theorem dX6_doSight_91 : decode cX6_doSight 91 = .ok (.iaload, 1) := by decide +kernel
theorem dX6_doSight_92 : decode cX6_doSight 92 = .ok (.iconst 1, 1) := by decide +kernel
theorem dX6_doSight_93 : decode cX6_doSight 93 = .ok (.iadd, 1) := by decide +kernel
theorem dX6_doSight_94 : decode cX6_doSight 94 = .ok (.iastore, 1) := by decide +kernel
theorem dX6_doSight_95 : decode cX6_doSight 95 = .ok (.aload_n 0, 1) := by decide +kernel
theorem dX6_doSight_96 : decode cX6_doSight 96 = .ok (.getfield 7, 3) := by decide +kernel
theorem dX6_doSight_99 : decode cX6_doSight 99 = .ok (.iconst 2, 1) := by decide +kernel
theorem dX6_doSight_100 : decode cX6_doSight 100 = .ok (.iaload, 1) := by decide +kernel
theorem dX6_doSight_101 : decode cX6_doSight 101 = .ok (.ireturn, 1) := by decide +kernel
theorem dX6_doForget_0 : decode cX6_doForget 0 = .ok (.aload_n 0, 1) := by decide +kernel
theorem dX6_doForget_1 : decode cX6_doForget 1 = .ok (.getfield 7, 3) := by decide +kernel
theorem dX6_doForget_4 : decode cX6_doForget 4 = .ok (.iconst 2, 1) := by decide +kernel
theorem dX6_doForget_5 : decode cX6_doForget 5 = .ok (.iaload, 1) := by decide +kernel
theorem dX6_doForget_6 : decode cX6_doForget 6 = .ok (.istore_n 1, 1) := by decide +kernel
theorem dX6_doForget_7 : decode cX6_doForget 7 = .ok (.aload_n 0, 1) := by decide +kernel
theorem dX6_doForget_8 : decode cX6_doForget 8 = .ok (.getfield 7, 3) := by decide +kernel
theorem dX6_doForget_11 : decode cX6_doForget 11 = .ok (.iconst 2, 1) := by decide +kernel
theorem dX6_doForget_12 : decode cX6_doForget 12 = .ok (.iconst 0, 1) := by decide +kernel
theorem dX6_doForget_13 : decode cX6_doForget 13 = .ok (.iastore, 1) := by decide +kernel
theorem dX6_doForget_14 : decode cX6_doForget 14 = .ok (.iload_n 1, 1) := by decide +kernel
theorem dX6_doForget_15 : decode cX6_doForget 15 = .ok (.ireturn, 1) := by decide +kernel
set_option maxRecDepth 20000 in
theorem ggX6_shaft_X6_hold : GoodIn wsX6_shaft wsX6_hold := goodIn_r _ [5, 6, 7, 33, 34, 35, 36, 37, 38, 39, 40, 41, 42, 43, 44, 45, 46, 47] (by decide +kernel) (by decide +kernel)
set_option maxRecDepth 20000 in
theorem gX6_shaft_X6_hold : GoodIn wsX6_shaft (wsV RX6 74 RX6 yX6_hold wsX6_hold) := goodIn_app (goodIn_of _ (by decide +kernel)) ggX6_shaft_X6_hold
set_option maxRecDepth 20000 in
theorem ggX6_shaft_X6_doShaft : GoodIn wsX6_shaft wsX6_doShaft := goodIn_r _ [11, 7, 12, 13, 4, 14, 15, 16, 17, 33, 34, 35, 36, 37, 38, 39, 40, 41, 42, 43, 44, 45, 46, 47] (by decide +kernel) (by decide +kernel)
set_option maxRecDepth 20000 in
theorem gX6_shaft_X6_doShaft : GoodIn wsX6_shaft (wsV RX6 77 RX6 yX6_doShaft wsX6_doShaft) := goodIn_app (goodIn_of _ (by decide +kernel)) ggX6_shaft_X6_doShaft
set_option maxRecDepth 20000 in
theorem ggX6_shaft_X6_ends : GoodIn wsX6_shaft wsX6_ends := goodIn_r _ [21, 22, 23, 24, 4, 25, 26, 27, 28, 29, 30, 31, 32, 6, 33, 34, 35, 36, 37, 38, 39, 40, 41, 42, 43, 44, 45, 46, 47] (by decide +kernel) (by decide +kernel)
set_option maxRecDepth 20000 in
theorem gX6_shaft_X6_ends : GoodIn wsX6_shaft (wsV RX6 80 RX6 yX6_ends wsX6_ends) := goodIn_app (goodIn_of _ (by decide +kernel)) ggX6_shaft_X6_ends
theorem dX6_shaft_0 : decode cX6_shaft 0 = .ok (.aload_n 0, 1) := by decide +kernel
theorem dX6_shaft_1 : decode cX6_shaft 1 = .ok (.invokevirtual 74, 3) := by decide +kernel
theorem dX6_shaft_4 : decode cX6_shaft 4 = .ok (.aload_n 0, 1) := by decide +kernel
theorem dX6_shaft_5 : decode cX6_shaft 5 = .ok (.aload_n 0, 1) := by decide +kernel
theorem dX6_shaft_6 : decode cX6_shaft 6 = .ok (.iload_n 1, 1) := by decide +kernel
theorem dX6_shaft_7 : decode cX6_shaft 7 = .ok (.iload_n 2, 1) := by decide +kernel
theorem dX6_shaft_8 : decode cX6_shaft 8 = .ok (.invokevirtual 77, 3) := by decide +kernel
theorem dX6_shaft_11 : decode cX6_shaft 11 = .ok (.invokevirtual 80, 3) := by decide +kernel
theorem dX6_shaft_14 : decode cX6_shaft 14 = .ok (.ireturn, 1) := by decide +kernel
set_option maxRecDepth 20000 in
theorem ggX6_sets_X6_hold : GoodIn wsX6_sets wsX6_hold := goodIn_r _ [5, 6, 7, 37, 38, 39, 40, 41, 42, 43, 44, 45, 46, 47, 48, 49, 50, 51] (by decide +kernel) (by decide +kernel)
set_option maxRecDepth 20000 in
theorem gX6_sets_X6_hold : GoodIn wsX6_sets (wsV RX6 74 RX6 yX6_hold wsX6_hold) := goodIn_app (goodIn_of _ (by decide +kernel)) ggX6_sets_X6_hold
set_option maxRecDepth 20000 in
theorem ggX6_sets_X6_doSets : GoodIn wsX6_sets wsX6_doSets := goodIn_r _ [11, 7, 12, 13, 4, 14, 15, 16, 17, 18, 19, 20, 21, 37, 38, 39, 40, 41, 42, 43, 44, 45, 46, 47, 48, 49, 50, 51] (by decide +kernel) (by decide +kernel)
set_option maxRecDepth 20000 in
theorem gX6_sets_X6_doSets : GoodIn wsX6_sets (wsV RX6 83 RX6 yX6_doSets wsX6_doSets) := goodIn_app (goodIn_of _ (by decide +kernel)) ggX6_sets_X6_doSets
set_option maxRecDepth 20000 in
theorem ggX6_sets_X6_ends : GoodIn wsX6_sets wsX6_ends := goodIn_r _ [25, 26, 27, 28, 4, 29, 30, 31, 32, 33, 34, 35, 36, 6, 37, 38, 39, 40, 41, 42, 43, 44, 45, 46, 47, 48, 49, 50, 51] (by decide +kernel) (by decide +kernel)
set_option maxRecDepth 20000 in
theorem gX6_sets_X6_ends : GoodIn wsX6_sets (wsV RX6 80 RX6 yX6_ends wsX6_ends) := goodIn_app (goodIn_of _ (by decide +kernel)) ggX6_sets_X6_ends
theorem dX6_sets_0 : decode cX6_sets 0 = .ok (.aload_n 0, 1) := by decide +kernel
theorem dX6_sets_1 : decode cX6_sets 1 = .ok (.invokevirtual 74, 3) := by decide +kernel
theorem dX6_sets_4 : decode cX6_sets 4 = .ok (.aload_n 0, 1) := by decide +kernel
theorem dX6_sets_5 : decode cX6_sets 5 = .ok (.aload_n 0, 1) := by decide +kernel
theorem dX6_sets_6 : decode cX6_sets 6 = .ok (.iload_n 1, 1) := by decide +kernel
theorem dX6_sets_7 : decode cX6_sets 7 = .ok (.iload_n 2, 1) := by decide +kernel
theorem dX6_sets_8 : decode cX6_sets 8 = .ok (.iload_n 3, 1) := by decide +kernel
theorem dX6_sets_9 : decode cX6_sets 9 = .ok (.invokevirtual 83, 3) := by decide +kernel
theorem dX6_sets_12 : decode cX6_sets 12 = .ok (.invokevirtual 80, 3) := by decide +kernel
theorem dX6_sets_15 : decode cX6_sets 15 = .ok (.ireturn, 1) := by decide +kernel
set_option maxRecDepth 20000 in
theorem ggX6_pipe_X6_hold : GoodIn wsX6_pipe wsX6_hold := goodIn_r _ [5, 6, 7, 45, 46, 47, 48, 49, 50, 51, 52, 53, 54, 55, 56, 57, 58, 59] (by decide +kernel) (by decide +kernel)
set_option maxRecDepth 20000 in
theorem gX6_pipe_X6_hold : GoodIn wsX6_pipe (wsV RX6 74 RX6 yX6_hold wsX6_hold) := goodIn_app (goodIn_of _ (by decide +kernel)) ggX6_pipe_X6_hold
set_option maxRecDepth 20000 in
theorem ggX6_pipe_X6_doPipe : GoodIn wsX6_pipe wsX6_doPipe := goodIn_r _ [11, 7, 12, 13, 14, 4, 15, 16, 17, 18, 19, 20, 21, 22, 23, 24, 25, 26, 27, 28, 29, 45, 46, 47, 48, 49, 50, 51, 52, 53, 54, 55, 56, 57, 58, 59] (by decide +kernel) (by decide +kernel)
set_option maxRecDepth 20000 in
theorem gX6_pipe_X6_doPipe : GoodIn wsX6_pipe (wsV RX6 87 RX6 yX6_doPipe wsX6_doPipe) := goodIn_app (goodIn_of _ (by decide +kernel)) ggX6_pipe_X6_doPipe
set_option maxRecDepth 20000 in
theorem ggX6_pipe_X6_ends : GoodIn wsX6_pipe wsX6_ends := goodIn_r _ [33, 34, 35, 36, 4, 37, 38, 39, 40, 41, 42, 43, 44, 6, 45, 46, 47, 48, 49, 50, 51, 52, 53, 54, 55, 56, 57, 58, 59] (by decide +kernel) (by decide +kernel)
set_option maxRecDepth 20000 in
theorem gX6_pipe_X6_ends : GoodIn wsX6_pipe (wsV RX6 80 RX6 yX6_ends wsX6_ends) := goodIn_app (goodIn_of _ (by decide +kernel)) ggX6_pipe_X6_ends
theorem dX6_pipe_0 : decode cX6_pipe 0 = .ok (.aload_n 0, 1) := by decide +kernel
theorem dX6_pipe_1 : decode cX6_pipe 1 = .ok (.invokevirtual 74, 3) := by decide +kernel
theorem dX6_pipe_4 : decode cX6_pipe 4 = .ok (.aload_n 0, 1) := by decide +kernel
theorem dX6_pipe_5 : decode cX6_pipe 5 = .ok (.aload_n 0, 1) := by decide +kernel
theorem dX6_pipe_6 : decode cX6_pipe 6 = .ok (.iload_n 1, 1) := by decide +kernel
theorem dX6_pipe_7 : decode cX6_pipe 7 = .ok (.iload_n 2, 1) := by decide +kernel
theorem dX6_pipe_8 : decode cX6_pipe 8 = .ok (.iload_n 3, 1) := by decide +kernel
theorem dX6_pipe_9 : decode cX6_pipe 9 = .ok (.iload 4, 2) := by decide +kernel
theorem dX6_pipe_11 : decode cX6_pipe 11 = .ok (.invokevirtual 87, 3) := by decide +kernel
theorem dX6_pipe_14 : decode cX6_pipe 14 = .ok (.invokevirtual 80, 3) := by decide +kernel
theorem dX6_pipe_17 : decode cX6_pipe 17 = .ok (.ireturn, 1) := by decide +kernel
set_option maxRecDepth 20000 in
theorem ggX6_drops_X6_hold : GoodIn wsX6_drops wsX6_hold := goodIn_r _ [5, 6, 7, 34, 35, 36, 37, 38, 39, 40, 41, 42, 43, 44, 45, 46, 47, 48] (by decide +kernel) (by decide +kernel)
set_option maxRecDepth 20000 in
theorem gX6_drops_X6_hold : GoodIn wsX6_drops (wsV RX6 74 RX6 yX6_hold wsX6_hold) := goodIn_app (goodIn_of _ (by decide +kernel)) ggX6_drops_X6_hold
set_option maxRecDepth 20000 in
theorem ggX6_drops_X6_doDrops : GoodIn wsX6_drops wsX6_doDrops := goodIn_r _ [11, 7, 12, 13, 14, 4, 15, 16, 17, 18, 34, 35, 36, 37, 38, 39, 40, 41, 42, 43, 44, 45, 46, 47, 48] (by decide +kernel) (by decide +kernel)
set_option maxRecDepth 20000 in
theorem gX6_drops_X6_doDrops : GoodIn wsX6_drops (wsV RX6 91 RX6 yX6_doDrops wsX6_doDrops) := goodIn_app (goodIn_of _ (by decide +kernel)) ggX6_drops_X6_doDrops
set_option maxRecDepth 20000 in
theorem ggX6_drops_X6_ends : GoodIn wsX6_drops wsX6_ends := goodIn_r _ [22, 23, 24, 25, 4, 26, 27, 28, 29, 30, 31, 32, 33, 6, 34, 35, 36, 37, 38, 39, 40, 41, 42, 43, 44, 45, 46, 47, 48] (by decide +kernel) (by decide +kernel)
set_option maxRecDepth 20000 in
theorem gX6_drops_X6_ends : GoodIn wsX6_drops (wsV RX6 80 RX6 yX6_ends wsX6_ends) := goodIn_app (goodIn_of _ (by decide +kernel)) ggX6_drops_X6_ends
theorem dX6_drops_0 : decode cX6_drops 0 = .ok (.aload_n 0, 1) := by decide +kernel
theorem dX6_drops_1 : decode cX6_drops 1 = .ok (.invokevirtual 74, 3) := by decide +kernel
theorem dX6_drops_4 : decode cX6_drops 4 = .ok (.aload_n 0, 1) := by decide +kernel
theorem dX6_drops_5 : decode cX6_drops 5 = .ok (.aload_n 0, 1) := by decide +kernel
theorem dX6_drops_6 : decode cX6_drops 6 = .ok (.iload_n 1, 1) := by decide +kernel
theorem dX6_drops_7 : decode cX6_drops 7 = .ok (.invokevirtual 91, 3) := by decide +kernel
theorem dX6_drops_10 : decode cX6_drops 10 = .ok (.invokevirtual 80, 3) := by decide +kernel
theorem dX6_drops_13 : decode cX6_drops 13 = .ok (.ireturn, 1) := by decide +kernel
set_option maxRecDepth 20000 in
theorem ggX6_sight_X6_hold : GoodIn wsX6_sight wsX6_hold := goodIn_r _ [5, 6, 7, 34, 35, 36, 37, 38, 39, 40, 41, 42, 43, 44, 45, 46, 47, 48] (by decide +kernel) (by decide +kernel)
set_option maxRecDepth 20000 in
theorem gX6_sight_X6_hold : GoodIn wsX6_sight (wsV RX6 74 RX6 yX6_hold wsX6_hold) := goodIn_app (goodIn_of _ (by decide +kernel)) ggX6_sight_X6_hold
set_option maxRecDepth 20000 in
theorem ggX6_sight_X6_doSight : GoodIn wsX6_sight wsX6_doSight := goodIn_r _ [11, 7, 12, 13, 4, 14, 15, 16, 17, 18, 34, 35, 36, 37, 38, 39, 40, 41, 42, 43, 44, 45, 46, 47, 48] (by decide +kernel) (by decide +kernel)
set_option maxRecDepth 20000 in
theorem gX6_sight_X6_doSight : GoodIn wsX6_sight (wsV RX6 94 RX6 yX6_doSight wsX6_doSight) := goodIn_app (goodIn_of _ (by decide +kernel)) ggX6_sight_X6_doSight
set_option maxRecDepth 20000 in
theorem ggX6_sight_X6_ends : GoodIn wsX6_sight wsX6_ends := goodIn_r _ [22, 23, 24, 25, 4, 26, 27, 28, 29, 30, 31, 32, 33, 6, 34, 35, 36, 37, 38, 39, 40, 41, 42, 43, 44, 45, 46, 47, 48] (by decide +kernel) (by decide +kernel)
set_option maxRecDepth 20000 in
theorem gX6_sight_X6_ends : GoodIn wsX6_sight (wsV RX6 80 RX6 yX6_ends wsX6_ends) := goodIn_app (goodIn_of _ (by decide +kernel)) ggX6_sight_X6_ends
theorem dX6_sight_0 : decode cX6_sight 0 = .ok (.aload_n 0, 1) := by decide +kernel
theorem dX6_sight_1 : decode cX6_sight 1 = .ok (.invokevirtual 74, 3) := by decide +kernel
theorem dX6_sight_4 : decode cX6_sight 4 = .ok (.aload_n 0, 1) := by decide +kernel
theorem dX6_sight_5 : decode cX6_sight 5 = .ok (.aload_n 0, 1) := by decide +kernel
theorem dX6_sight_6 : decode cX6_sight 6 = .ok (.iload_n 1, 1) := by decide +kernel
theorem dX6_sight_7 : decode cX6_sight 7 = .ok (.iload_n 2, 1) := by decide +kernel
theorem dX6_sight_8 : decode cX6_sight 8 = .ok (.iload_n 3, 1) := by decide +kernel
theorem dX6_sight_9 : decode cX6_sight 9 = .ok (.invokevirtual 94, 3) := by decide +kernel
theorem dX6_sight_12 : decode cX6_sight 12 = .ok (.invokevirtual 80, 3) := by decide +kernel
theorem dX6_sight_15 : decode cX6_sight 15 = .ok (.ireturn, 1) := by decide +kernel
set_option maxRecDepth 20000 in
theorem ggX6_forget_X6_hold : GoodIn wsX6_forget wsX6_hold := goodIn_r _ [5, 6, 7, 27, 28, 29, 30, 31, 32, 33, 34, 35, 36, 37, 38, 39, 40, 41] (by decide +kernel) (by decide +kernel)
set_option maxRecDepth 20000 in
theorem gX6_forget_X6_hold : GoodIn wsX6_forget (wsV RX6 74 RX6 yX6_hold wsX6_hold) := goodIn_app (goodIn_of _ (by decide +kernel)) ggX6_forget_X6_hold
set_option maxRecDepth 20000 in
theorem ggX6_forget_X6_doForget : GoodIn wsX6_forget wsX6_doForget := goodIn_r _ [11, 7, 27, 28, 29, 30, 31, 32, 33, 34, 35, 36, 37, 38, 39, 40, 41] (by decide +kernel) (by decide +kernel)
set_option maxRecDepth 20000 in
theorem gX6_forget_X6_doForget : GoodIn wsX6_forget (wsV RX6 97 RX6 yX6_doForget wsX6_doForget) := goodIn_app (goodIn_of _ (by decide +kernel)) ggX6_forget_X6_doForget
set_option maxRecDepth 20000 in
theorem ggX6_forget_X6_ends : GoodIn wsX6_forget wsX6_ends := goodIn_r _ [15, 16, 17, 18, 4, 19, 20, 21, 22, 23, 24, 25, 26, 6, 27, 28, 29, 30, 31, 32, 33, 34, 35, 36, 37, 38, 39, 40, 41] (by decide +kernel) (by decide +kernel)
set_option maxRecDepth 20000 in
theorem gX6_forget_X6_ends : GoodIn wsX6_forget (wsV RX6 80 RX6 yX6_ends wsX6_ends) := goodIn_app (goodIn_of _ (by decide +kernel)) ggX6_forget_X6_ends
theorem dX6_forget_0 : decode cX6_forget 0 = .ok (.aload_n 0, 1) := by decide +kernel
theorem dX6_forget_1 : decode cX6_forget 1 = .ok (.invokevirtual 74, 3) := by decide +kernel
theorem dX6_forget_4 : decode cX6_forget 4 = .ok (.aload_n 0, 1) := by decide +kernel
theorem dX6_forget_5 : decode cX6_forget 5 = .ok (.aload_n 0, 1) := by decide +kernel
theorem dX6_forget_6 : decode cX6_forget 6 = .ok (.invokevirtual 97, 3) := by decide +kernel
theorem dX6_forget_9 : decode cX6_forget 9 = .ok (.invokevirtual 80, 3) := by decide +kernel
theorem dX6_forget_12 : decode cX6_forget 12 = .ok (.ireturn, 1) := by decide +kernel
set_option maxRecDepth 20000 in
theorem ggX6_ofShaft_X6_pipeOf : GoodIn wsX6_ofShaft wsX6_pipeOf := goodIn_r _ [6, 1, 22, 23, 24, 25, 26, 27, 28, 29, 30, 31, 32, 33, 34, 35, 36] (by decide +kernel) (by decide +kernel)
set_option maxRecDepth 20000 in
theorem gX6_ofShaft_X6_pipeOf : GoodIn wsX6_ofShaft (wsV RX6 57 RX6 yX6_pipeOf wsX6_pipeOf) := goodIn_app (goodIn_of _ (by decide +kernel)) ggX6_ofShaft_X6_pipeOf
set_option maxRecDepth 20000 in
theorem ggX6_ofShaft_X6_below : GoodIn wsX6_ofShaft wsX6_below := goodIn_r _ [10, 1, 2, 3, 4, 5, 6, 11, 12, 13, 22, 23, 24, 25, 26, 27, 28, 29, 30, 31, 32, 33, 34, 35, 36] (by decide +kernel) (by decide +kernel)
set_option maxRecDepth 20000 in
theorem gX6_ofShaft_X6_below : GoodIn wsX6_ofShaft (wsV RX6 68 RX6 yX6_below wsX6_below) := goodIn_app (goodIn_of _ (by decide +kernel)) ggX6_ofShaft_X6_below
set_option maxRecDepth 20000 in
theorem ggX6_ofShaft_X6_has : GoodIn wsX6_ofShaft wsX6_has := goodIn_r _ [13] (by decide +kernel) (by decide +kernel)
set_option maxRecDepth 20000 in
theorem gX6_ofShaft_X6_has : GoodIn wsX6_ofShaft (va_wsS RX6 42 yX6_has wsX6_has) := goodIn_app (goodIn_of _ (by decide +kernel)) ggX6_ofShaft_X6_has
set_option maxRecDepth 20000 in
theorem ggX6_ofShaft_X6_kindOf : GoodIn wsX6_ofShaft wsX6_kindOf := goodIn_r _ [17, 1, 22, 23, 24, 25, 26, 27, 28, 29, 30, 31, 32, 33, 34, 35, 36] (by decide +kernel) (by decide +kernel)
set_option maxRecDepth 20000 in
theorem gX6_ofShaft_X6_kindOf : GoodIn wsX6_ofShaft (wsV RX6 101 RX6 yX6_kindOf wsX6_kindOf) := goodIn_app (goodIn_of _ (by decide +kernel)) ggX6_ofShaft_X6_kindOf
set_option maxRecDepth 20000 in
theorem ggX6_ofShaft_X6_numberOf : GoodIn wsX6_ofShaft wsX6_numberOf := goodIn_r _ [21, 1, 22, 23, 24, 25, 26, 27, 28, 29, 30, 31, 32, 33, 34, 35, 36] (by decide +kernel) (by decide +kernel)
set_option maxRecDepth 20000 in
theorem gX6_ofShaft_X6_numberOf : GoodIn wsX6_ofShaft (wsV RX6 104 RX6 yX6_numberOf wsX6_numberOf) := goodIn_app (goodIn_of _ (by decide +kernel)) ggX6_ofShaft_X6_numberOf
theorem dX6_ofShaft_0 : decode cX6_ofShaft 0 = .ok (.iconst 0, 1) := by decide +kernel
theorem dX6_ofShaft_1 : decode cX6_ofShaft 1 = .ok (.istore_n 3, 1) := by decide +kernel
theorem dX6_ofShaft_2 : decode cX6_ofShaft 2 = .ok (.iconst 0, 1) := by decide +kernel
theorem dX6_ofShaft_3 : decode cX6_ofShaft 3 = .ok (.istore 4, 2) := by decide +kernel
theorem dX6_ofShaft_5 : decode cX6_ofShaft 5 = .ok (.iconst 0, 1) := by decide +kernel
theorem dX6_ofShaft_6 : decode cX6_ofShaft 6 = .ok (.istore 5, 2) := by decide +kernel
theorem dX6_ofShaft_8 : decode cX6_ofShaft 8 = .ok (.iconst 0, 1) := by decide +kernel
theorem dX6_ofShaft_9 : decode cX6_ofShaft 9 = .ok (.istore 6, 2) := by decide +kernel
theorem dX6_ofShaft_11 : decode cX6_ofShaft 11 = .ok (.iload 6, 2) := by decide +kernel
theorem dX6_ofShaft_13 : decode cX6_ofShaft 13 = .ok (.aload_n 0, 1) := by decide +kernel
theorem dX6_ofShaft_14 : decode cX6_ofShaft 14 = .ok (.getfield 7, 3) := by decide +kernel
theorem dX6_ofShaft_17 : decode cX6_ofShaft 17 = .ok (.iconst 1, 1) := by decide +kernel
theorem dX6_ofShaft_18 : decode cX6_ofShaft 18 = .ok (.iaload, 1) := by decide +kernel
theorem dX6_ofShaft_19 : decode cX6_ofShaft 19 = .ok (.if_icmp .ge 49, 3) := by decide +kernel
theorem dX6_ofShaft_22 : decode cX6_ofShaft 22 = .ok (.iload_n 3, 1) := by decide +kernel
theorem dX6_ofShaft_23 : decode cX6_ofShaft 23 = .ok (.aload_n 0, 1) := by decide +kernel
theorem dX6_ofShaft_24 : decode cX6_ofShaft 24 = .ok (.iload 6, 2) := by decide +kernel
theorem dX6_ofShaft_26 : decode cX6_ofShaft 26 = .ok (.iconst 0, 1) := by decide +kernel
theorem dX6_ofShaft_27 : decode cX6_ofShaft 27 = .ok (.invokevirtual 57, 3) := by decide +kernel
theorem dX6_ofShaft_30 : decode cX6_ofShaft 30 = .ok (.iload_n 1, 1) := by decide +kernel
theorem dX6_ofShaft_31 : decode cX6_ofShaft 31 = .ok (.if_icmp .ne 7, 3) := by decide +kernel
theorem dX6_ofShaft_34 : decode cX6_ofShaft 34 = .ok (.iconst 1, 1) := by decide +kernel
theorem dX6_ofShaft_35 : decode cX6_ofShaft 35 = .ok (.goto 4, 3) := by decide +kernel
theorem dX6_ofShaft_38 : decode cX6_ofShaft 38 = .ok (.iconst 0, 1) := by decide +kernel
theorem dX6_ofShaft_39 : decode cX6_ofShaft 39 = .ok (.iadd, 1) := by decide +kernel
theorem dX6_ofShaft_40 : decode cX6_ofShaft 40 = .ok (.istore_n 3, 1) := by decide +kernel
theorem dX6_ofShaft_41 : decode cX6_ofShaft 41 = .ok (.iload 4, 2) := by decide +kernel
theorem dX6_ofShaft_43 : decode cX6_ofShaft 43 = .ok (.aload_n 0, 1) := by decide +kernel
theorem dX6_ofShaft_44 : decode cX6_ofShaft 44 = .ok (.iload 6, 2) := by decide +kernel
theorem dX6_ofShaft_46 : decode cX6_ofShaft 46 = .ok (.iconst 1, 1) := by decide +kernel
theorem dX6_ofShaft_47 : decode cX6_ofShaft 47 = .ok (.invokevirtual 57, 3) := by decide +kernel
theorem dX6_ofShaft_50 : decode cX6_ofShaft 50 = .ok (.iload_n 1, 1) := by decide +kernel
theorem dX6_ofShaft_51 : decode cX6_ofShaft 51 = .ok (.if_icmp .ne 7, 3) := by decide +kernel
theorem dX6_ofShaft_54 : decode cX6_ofShaft 54 = .ok (.iconst 1, 1) := by decide +kernel
theorem dX6_ofShaft_55 : decode cX6_ofShaft 55 = .ok (.goto 4, 3) := by decide +kernel
theorem dX6_ofShaft_58 : decode cX6_ofShaft 58 = .ok (.iconst 0, 1) := by decide +kernel
theorem dX6_ofShaft_59 : decode cX6_ofShaft 59 = .ok (.iadd, 1) := by decide +kernel
theorem dX6_ofShaft_60 : decode cX6_ofShaft 60 = .ok (.istore 4, 2) := by decide +kernel
theorem dX6_ofShaft_62 : decode cX6_ofShaft 62 = .ok (.iinc 6 1, 3) := by decide +kernel
theorem dX6_ofShaft_65 : decode cX6_ofShaft 65 = .ok (.goto (-54), 3) := by decide +kernel
theorem dX6_ofShaft_68 : decode cX6_ofShaft 68 = .ok (.iconst 0, 1) := by decide +kernel
theorem dX6_ofShaft_69 : decode cX6_ofShaft 69 = .ok (.istore 6, 2) := by decide +kernel
theorem dX6_ofShaft_71 : decode cX6_ofShaft 71 = .ok (.iload 6, 2) := by decide +kernel
theorem dX6_ofShaft_73 : decode cX6_ofShaft 73 = .ok (.aload_n 0, 1) := by decide +kernel
theorem dX6_ofShaft_74 : decode cX6_ofShaft 74 = .ok (.getfield 7, 3) := by decide +kernel
theorem dX6_ofShaft_77 : decode cX6_ofShaft 77 = .ok (.iconst 0, 1) := by decide +kernel
theorem dX6_ofShaft_78 : decode cX6_ofShaft 78 = .ok (.iaload, 1) := by decide +kernel
theorem dX6_ofShaft_79 : decode cX6_ofShaft 79 = .ok (.if_icmp .ge 40, 3) := by decide +kernel
theorem dX6_ofShaft_82 : decode cX6_ofShaft 82 = .ok (.iload_n 2, 1) := by decide +kernel
theorem dX6_ofShaft_83 : decode cX6_ofShaft 83 = .ok (.iconst 5, 1) := by decide +kernel
theorem dX6_ofShaft_84 : decode cX6_ofShaft 84 = .ok (.if_icmp .ne 35, 3) := by decide +kernel
theorem dX6_ofShaft_87 : decode cX6_ofShaft 87 = .ok (.iload 5, 2) := by decide +kernel
theorem dX6_ofShaft_89 : decode cX6_ofShaft 89 = .ok (.aload_n 0, 1) := by decide +kernel
theorem dX6_ofShaft_90 : decode cX6_ofShaft 90 = .ok (.iload 6, 2) := by decide +kernel
theorem dX6_ofShaft_92 : decode cX6_ofShaft 92 = .ok (.invokevirtual 68, 3) := by decide +kernel
theorem dX6_ofShaft_95 : decode cX6_ofShaft 95 = .ok (.iload_n 1, 1) := by decide +kernel
theorem dX6_ofShaft_96 : decode cX6_ofShaft 96 = .ok (.invokestatic 42, 3) := by decide +kernel
theorem dX6_ofShaft_99 : decode cX6_ofShaft 99 = .ok (.ifCond .eq 10, 3) := by decide +kernel
theorem dX6_ofShaft_102 : decode cX6_ofShaft 102 = .ok (.iconst 1, 1) := by decide +kernel
theorem dX6_ofShaft_103 : decode cX6_ofShaft 103 = .ok (.iload 6, 2) := by decide +kernel
theorem dX6_ofShaft_105 : decode cX6_ofShaft 105 = .ok (.ishl, 1) := by decide +kernel
theorem dX6_ofShaft_106 : decode cX6_ofShaft 106 = .ok (.goto 4, 3) := by decide +kernel
theorem dX6_ofShaft_109 : decode cX6_ofShaft 109 = .ok (.iconst 0, 1) := by decide +kernel
theorem dX6_ofShaft_110 : decode cX6_ofShaft 110 = .ok (.ior, 1) := by decide +kernel
theorem dX6_ofShaft_111 : decode cX6_ofShaft 111 = .ok (.istore 5, 2) := by decide +kernel
theorem dX6_ofShaft_113 : decode cX6_ofShaft 113 = .ok (.iinc 6 1, 3) := by decide +kernel
theorem dX6_ofShaft_116 : decode cX6_ofShaft 116 = .ok (.goto (-45), 3) := by decide +kernel
theorem dX6_ofShaft_119 : decode cX6_ofShaft 119 = .ok (.iload_n 2, 1) := by decide +kernel
theorem dX6_ofShaft_120 : decode cX6_ofShaft 120 = .ok (.tableswitch 59 0 4 #[36, 42, 48, 50, 53], 36) := by decide +kernel
theorem dX6_ofShaft_156 : decode cX6_ofShaft 156 = .ok (.aload_n 0, 1) := by decide +kernel
theorem dX6_ofShaft_157 : decode cX6_ofShaft 157 = .ok (.iload_n 1, 1) := by decide +kernel
theorem dX6_ofShaft_158 : decode cX6_ofShaft 158 = .ok (.invokevirtual 101, 3) := by decide +kernel
theorem dX6_ofShaft_161 : decode cX6_ofShaft 161 = .ok (.ireturn, 1) := by decide +kernel
theorem dX6_ofShaft_162 : decode cX6_ofShaft 162 = .ok (.aload_n 0, 1) := by decide +kernel
theorem dX6_ofShaft_163 : decode cX6_ofShaft 163 = .ok (.iload_n 1, 1) := by decide +kernel
theorem dX6_ofShaft_164 : decode cX6_ofShaft 164 = .ok (.invokevirtual 104, 3) := by decide +kernel
theorem dX6_ofShaft_167 : decode cX6_ofShaft 167 = .ok (.ireturn, 1) := by decide +kernel
theorem dX6_ofShaft_168 : decode cX6_ofShaft 168 = .ok (.iload_n 3, 1) := by decide +kernel
theorem dX6_ofShaft_169 : decode cX6_ofShaft 169 = .ok (.ireturn, 1) := by decide +kernel
theorem dX6_ofShaft_170 : decode cX6_ofShaft 170 = .ok (.iload 4, 2) := by decide +kernel
theorem dX6_ofShaft_172 : decode cX6_ofShaft 172 = .ok (.ireturn, 1) := by decide +kernel
theorem dX6_ofShaft_173 : decode cX6_ofShaft 173 = .ok (.aload_n 0, 1) := by decide +kernel
theorem dX6_ofShaft_174 : decode cX6_ofShaft 174 = .ok (.iload_n 1, 1) := by decide +kernel
theorem dX6_ofShaft_175 : decode cX6_ofShaft 175 = .ok (.invokevirtual 68, 3) := by decide +kernel
theorem dX6_ofShaft_178 : decode cX6_ofShaft 178 = .ok (.ireturn, 1) := by decide +kernel
theorem dX6_ofShaft_179 : decode cX6_ofShaft 179 = .ok (.iload 5, 2) := by decide +kernel
theorem dX6_ofShaft_181 : decode cX6_ofShaft 181 = .ok (.ireturn, 1) := by decide +kernel
set_option maxRecDepth 20000 in
theorem ggX6_of_X6_isShaft : GoodIn wsX6_of wsX6_isShaft := goodIn_r _ [5, 6, 7, 8, 4, 9, 38, 39, 40, 41, 42, 43, 44, 45, 46, 47, 48, 49, 50, 51, 52] (by decide +kernel) (by decide +kernel)
set_option maxRecDepth 20000 in
theorem gX6_of_X6_isShaft : GoodIn wsX6_of (wsV RX6 65 RX6 yX6_isShaft wsX6_isShaft) := goodIn_app (goodIn_of _ (by decide +kernel)) ggX6_of_X6_isShaft
set_option maxRecDepth 20000 in
theorem ggX6_of_X6_in : GoodIn wsX6_of wsX6_in := goodIn_r _ [9] (by decide +kernel) (by decide +kernel)
set_option maxRecDepth 20000 in
theorem gX6_of_X6_in : GoodIn wsX6_of (va_wsS RX6 53 yX6_in wsX6_in) := goodIn_app (goodIn_of _ (by decide +kernel)) ggX6_of_X6_in
set_option maxRecDepth 20000 in
theorem ggX6_of_X6_ofShaft : GoodIn wsX6_of wsX6_ofShaft := goodIn_r _ [13, 6, 14, 15, 16, 4, 17, 18, 19, 20, 21, 22, 23, 24, 25, 26, 27, 28, 29, 30, 31, 32, 38, 39, 40, 41, 42, 43, 44, 45, 46, 47, 48, 49, 50, 51, 52] (by decide +kernel) (by decide +kernel)
set_option maxRecDepth 20000 in
theorem gX6_of_X6_ofShaft : GoodIn wsX6_of (wsV RX6 107 RX6 yX6_ofShaft wsX6_ofShaft) := goodIn_app (goodIn_of _ (by decide +kernel)) ggX6_of_X6_ofShaft
set_option maxRecDepth 20000 in
theorem ggX6_of_X6_refuses : GoodIn wsX6_of wsX6_refuses := goodIn_r _ [36, 37, 38, 39, 40, 41, 42, 43, 44, 45, 46, 47, 48, 49, 50, 51, 52] (by decide +kernel) (by decide +kernel)
set_option maxRecDepth 20000 in
theorem gX6_of_X6_refuses : GoodIn wsX6_of (wsV RX6 46 RX6 yX6_refuses wsX6_refuses) := goodIn_app (goodIn_of _ (by decide +kernel)) ggX6_of_X6_refuses
theorem dX6_of_0 : decode cX6_of 0 = .ok (.aload_n 0, 1) := by decide +kernel
theorem dX6_of_1 : decode cX6_of 1 = .ok (.iload_n 1, 1) := by decide +kernel
theorem dX6_of_2 : decode cX6_of 2 = .ok (.invokevirtual 65, 3) := by decide +kernel
theorem dX6_of_5 : decode cX6_of 5 = .ok (.ifCond .eq 21, 3) := by decide +kernel
theorem dX6_of_8 : decode cX6_of 8 = .ok (.iload_n 2, 1) := by decide +kernel
theorem dX6_of_9 : decode cX6_of 9 = .ok (.iconst 0, 1) := by decide +kernel
theorem dX6_of_10 : decode cX6_of 10 = .ok (.iconst 5, 1) := by decide +kernel
theorem dX6_of_11 : decode cX6_of 11 = .ok (.invokestatic 53, 3) := by decide +kernel
theorem dX6_of_14 : decode cX6_of 14 = .ok (.ifCond .eq 12, 3) := by decide +kernel
theorem dX6_of_17 : decode cX6_of 17 = .ok (.aload_n 0, 1) := by decide +kernel
theorem dX6_of_18 : decode cX6_of 18 = .ok (.iload_n 1, 1) := by decide +kernel
theorem dX6_of_19 : decode cX6_of 19 = .ok (.iload_n 2, 1) := by decide +kernel
theorem dX6_of_20 : decode cX6_of 20 = .ok (.invokevirtual 107, 3) := by decide +kernel
theorem dX6_of_23 : decode cX6_of 23 = .ok (.goto 9, 3) := by decide +kernel
theorem dX6_of_26 : decode cX6_of 26 = .ok (.aload_n 0, 1) := by decide +kernel
theorem dX6_of_27 : decode cX6_of 27 = .ok (.bipush (-2), 2) := by decide +kernel
theorem dX6_of_29 : decode cX6_of 29 = .ok (.invokevirtual 46, 3) := by decide +kernel
theorem dX6_of_32 : decode cX6_of 32 = .ok (.ireturn, 1) := by decide +kernel
set_option maxRecDepth 20000 in
theorem ggX6_about_X6_isPipe : GoodIn wsX6_about wsX6_isPipe := goodIn_r _ [5, 6, 7, 8, 4, 9, 19, 20, 21, 22, 23, 24, 25, 26, 27, 28, 29, 30, 31, 32, 33] (by decide +kernel) (by decide +kernel)
set_option maxRecDepth 20000 in
theorem gX6_about_X6_isPipe : GoodIn wsX6_about (wsV RX6 71 RX6 yX6_isPipe wsX6_isPipe) := goodIn_app (goodIn_of _ (by decide +kernel)) ggX6_about_X6_isPipe
set_option maxRecDepth 20000 in
theorem ggX6_about_X6_in : GoodIn wsX6_about wsX6_in := goodIn_r _ [9] (by decide +kernel) (by decide +kernel)
set_option maxRecDepth 20000 in
theorem gX6_about_X6_in : GoodIn wsX6_about (va_wsS RX6 53 yX6_in wsX6_in) := goodIn_app (goodIn_of _ (by decide +kernel)) ggX6_about_X6_in
set_option maxRecDepth 20000 in
theorem ggX6_about_X6_pipeOf : GoodIn wsX6_about wsX6_pipeOf := goodIn_r _ [13, 6, 19, 20, 21, 22, 23, 24, 25, 26, 27, 28, 29, 30, 31, 32, 33] (by decide +kernel) (by decide +kernel)
set_option maxRecDepth 20000 in
theorem gX6_about_X6_pipeOf : GoodIn wsX6_about (wsV RX6 57 RX6 yX6_pipeOf wsX6_pipeOf) := goodIn_app (goodIn_of _ (by decide +kernel)) ggX6_about_X6_pipeOf
set_option maxRecDepth 20000 in
theorem ggX6_about_X6_refuses : GoodIn wsX6_about wsX6_refuses := goodIn_r _ [17, 18, 19, 20, 21, 22, 23, 24, 25, 26, 27, 28, 29, 30, 31, 32, 33] (by decide +kernel) (by decide +kernel)
set_option maxRecDepth 20000 in
theorem gX6_about_X6_refuses : GoodIn wsX6_about (wsV RX6 46 RX6 yX6_refuses wsX6_refuses) := goodIn_app (goodIn_of _ (by decide +kernel)) ggX6_about_X6_refuses
theorem dX6_about_0 : decode cX6_about 0 = .ok (.aload_n 0, 1) := by decide +kernel
theorem dX6_about_1 : decode cX6_about 1 = .ok (.iload_n 1, 1) := by decide +kernel
theorem dX6_about_2 : decode cX6_about 2 = .ok (.invokevirtual 71, 3) := by decide +kernel
theorem dX6_about_5 : decode cX6_about 5 = .ok (.ifCond .eq 21, 3) := by decide +kernel
theorem dX6_about_8 : decode cX6_about 8 = .ok (.iload_n 2, 1) := by decide +kernel
theorem dX6_about_9 : decode cX6_about 9 = .ok (.iconst 0, 1) := by decide +kernel
theorem dX6_about_10 : decode cX6_about 10 = .ok (.iconst 3, 1) := by decide +kernel
theorem dX6_about_11 : decode cX6_about 11 = .ok (.invokestatic 53, 3) := by decide +kernel
theorem dX6_about_14 : decode cX6_about 14 = .ok (.ifCond .eq 12, 3) := by decide +kernel
theorem dX6_about_17 : decode cX6_about 17 = .ok (.aload_n 0, 1) := by decide +kernel
theorem dX6_about_18 : decode cX6_about 18 = .ok (.iload_n 1, 1) := by decide +kernel
theorem dX6_about_19 : decode cX6_about 19 = .ok (.iload_n 2, 1) := by decide +kernel
theorem dX6_about_20 : decode cX6_about 20 = .ok (.invokevirtual 57, 3) := by decide +kernel
theorem dX6_about_23 : decode cX6_about 23 = .ok (.goto 9, 3) := by decide +kernel
theorem dX6_about_26 : decode cX6_about 26 = .ok (.aload_n 0, 1) := by decide +kernel
theorem dX6_about_27 : decode cX6_about 27 = .ok (.bipush (-2), 2) := by decide +kernel
theorem dX6_about_29 : decode cX6_about 29 = .ok (.invokevirtual 46, 3) := by decide +kernel
theorem dX6_about_32 : decode cX6_about 32 = .ok (.ireturn, 1) := by decide +kernel
set_option maxRecDepth 20000 in
theorem ggX6_pumped_X6_numberOf : GoodIn wsX6_pumped wsX6_numberOf := goodIn_r _ [5, 6, 7, 8, 9, 10, 11, 12, 13, 14, 15, 16, 17, 18, 19, 20, 21] (by decide +kernel) (by decide +kernel)
set_option maxRecDepth 20000 in
theorem gX6_pumped_X6_numberOf : GoodIn wsX6_pumped (wsV RX6 104 RX6 yX6_numberOf wsX6_numberOf) := goodIn_app (goodIn_of _ (by decide +kernel)) ggX6_pumped_X6_numberOf
theorem dX6_pumped_0 : decode cX6_pumped 0 = .ok (.iload_n 2, 1) := by decide +kernel
theorem dX6_pumped_1 : decode cX6_pumped 1 = .ok (.istore_n 3, 1) := by decide +kernel
theorem dX6_pumped_2 : decode cX6_pumped 2 = .ok (.iload_n 3, 1) := by decide +kernel
theorem dX6_pumped_3 : decode cX6_pumped 3 = .ok (.aload_n 0, 1) := by decide +kernel
theorem dX6_pumped_4 : decode cX6_pumped 4 = .ok (.iload_n 1, 1) := by decide +kernel
theorem dX6_pumped_5 : decode cX6_pumped 5 = .ok (.invokevirtual 104, 3) := by decide +kernel
theorem dX6_pumped_8 : decode cX6_pumped 8 = .ok (.irem, 1) := by decide +kernel
theorem dX6_pumped_9 : decode cX6_pumped 9 = .ok (.ifCond .eq 9, 3) := by decide +kernel
theorem dX6_pumped_12 : decode cX6_pumped 12 = .ok (.iinc 3 1, 3) := by decide +kernel
theorem dX6_pumped_15 : decode cX6_pumped 15 = .ok (.goto (-13), 3) := by decide +kernel
theorem dX6_pumped_18 : decode cX6_pumped 18 = .ok (.iload_n 3, 1) := by decide +kernel
theorem dX6_pumped_19 : decode cX6_pumped 19 = .ok (.ireturn, 1) := by decide +kernel
set_option maxRecDepth 20000 in
theorem ggX6_leavesAt_X6_kindOf : GoodIn wsX6_leavesAt wsX6_kindOf := goodIn_r _ [5, 6, 15, 16, 17, 18, 19, 20, 21, 22, 23, 24, 25, 26, 27, 28, 29] (by decide +kernel) (by decide +kernel)
set_option maxRecDepth 20000 in
theorem gX6_leavesAt_X6_kindOf : GoodIn wsX6_leavesAt (wsV RX6 101 RX6 yX6_kindOf wsX6_kindOf) := goodIn_app (goodIn_of _ (by decide +kernel)) ggX6_leavesAt_X6_kindOf
set_option maxRecDepth 20000 in
theorem ggX6_leavesAt_X6_pumped : GoodIn wsX6_leavesAt wsX6_pumped := goodIn_r _ [10, 11, 12, 13, 4, 14, 6, 15, 16, 17, 18, 19, 20, 21, 22, 23, 24, 25, 26, 27, 28, 29] (by decide +kernel) (by decide +kernel)
set_option maxRecDepth 20000 in
theorem gX6_leavesAt_X6_pumped : GoodIn wsX6_leavesAt (wsV RX6 110 RX6 yX6_pumped wsX6_pumped) := goodIn_app (goodIn_of _ (by decide +kernel)) ggX6_leavesAt_X6_pumped
set_option maxRecDepth 20000 in
theorem ggX6_leavesAt_X6_numberOf : GoodIn wsX6_leavesAt wsX6_numberOf := goodIn_r _ [14, 6, 15, 16, 17, 18, 19, 20, 21, 22, 23, 24, 25, 26, 27, 28, 29] (by decide +kernel) (by decide +kernel)
set_option maxRecDepth 20000 in
theorem gX6_leavesAt_X6_numberOf : GoodIn wsX6_leavesAt (wsV RX6 104 RX6 yX6_numberOf wsX6_numberOf) := goodIn_app (goodIn_of _ (by decide +kernel)) ggX6_leavesAt_X6_numberOf
theorem dX6_leavesAt_0 : decode cX6_leavesAt 0 = .ok (.iload_n 2, 1) := by decide +kernel
theorem dX6_leavesAt_1 : decode cX6_leavesAt 1 = .ok (.istore_n 3, 1) := by decide +kernel
theorem dX6_leavesAt_2 : decode cX6_leavesAt 2 = .ok (.aload_n 0, 1) := by decide +kernel
theorem dX6_leavesAt_3 : decode cX6_leavesAt 3 = .ok (.iload_n 1, 1) := by decide +kernel
theorem dX6_leavesAt_4 : decode cX6_leavesAt 4 = .ok (.invokevirtual 101, 3) := by decide +kernel
theorem dX6_leavesAt_7 : decode cX6_leavesAt 7 = .ok (.tableswitch 90 1 4 #[29, 39, 50, 69], 29) := by decide +kernel
theorem dX6_leavesAt_36 : decode cX6_leavesAt 36 = .ok (.aload_n 0, 1) := by decide +kernel
theorem dX6_leavesAt_37 : decode cX6_leavesAt 37 = .ok (.iload_n 1, 1) := by decide +kernel
theorem dX6_leavesAt_38 : decode cX6_leavesAt 38 = .ok (.iload_n 2, 1) := by decide +kernel
theorem dX6_leavesAt_39 : decode cX6_leavesAt 39 = .ok (.invokevirtual 110, 3) := by decide +kernel
theorem dX6_leavesAt_42 : decode cX6_leavesAt 42 = .ok (.istore_n 3, 1) := by decide +kernel
theorem dX6_leavesAt_43 : decode cX6_leavesAt 43 = .ok (.goto 54, 3) := by decide +kernel
theorem dX6_leavesAt_46 : decode cX6_leavesAt 46 = .ok (.iload_n 2, 1) := by decide +kernel
theorem dX6_leavesAt_47 : decode cX6_leavesAt 47 = .ok (.aload_n 0, 1) := by decide +kernel
theorem dX6_leavesAt_48 : decode cX6_leavesAt 48 = .ok (.iload_n 1, 1) := by decide +kernel
theorem dX6_leavesAt_49 : decode cX6_leavesAt 49 = .ok (.invokevirtual 104, 3) := by decide +kernel
theorem dX6_leavesAt_52 : decode cX6_leavesAt 52 = .ok (.iadd, 1) := by decide +kernel
theorem dX6_leavesAt_53 : decode cX6_leavesAt 53 = .ok (.istore_n 3, 1) := by decide +kernel
theorem dX6_leavesAt_54 : decode cX6_leavesAt 54 = .ok (.goto 43, 3) := by decide +kernel
theorem dX6_leavesAt_57 : decode cX6_leavesAt 57 = .ok (.iload_n 2, 1) := by decide +kernel
theorem dX6_leavesAt_58 : decode cX6_leavesAt 58 = .ok (.aload_n 0, 1) := by decide +kernel
theorem dX6_leavesAt_59 : decode cX6_leavesAt 59 = .ok (.iload_n 1, 1) := by decide +kernel
theorem dX6_leavesAt_60 : decode cX6_leavesAt 60 = .ok (.invokevirtual 104, 3) := by decide +kernel
theorem dX6_leavesAt_63 : decode cX6_leavesAt 63 = .ok (.if_icmp .ge 8, 3) := by decide +kernel
theorem dX6_leavesAt_66 : decode cX6_leavesAt 66 = .ok (.bipush 63, 2) := by decide +kernel
theorem dX6_leavesAt_68 : decode cX6_leavesAt 68 = .ok (.goto 4, 3) := by decide +kernel
theorem dX6_leavesAt_71 : decode cX6_leavesAt 71 = .ok (.iload_n 2, 1) := by decide +kernel
theorem dX6_leavesAt_72 : decode cX6_leavesAt 72 = .ok (.istore_n 3, 1) := by decide +kernel
theorem dX6_leavesAt_73 : decode cX6_leavesAt 73 = .ok (.goto 24, 3) := by decide +kernel
theorem dX6_leavesAt_76 : decode cX6_leavesAt 76 = .ok (.aload_n 0, 1) := by decide +kernel
theorem dX6_leavesAt_77 : decode cX6_leavesAt 77 = .ok (.iload_n 1, 1) := by decide +kernel
theorem dX6_leavesAt_78 : decode cX6_leavesAt 78 = .ok (.iload_n 2, 1) := by decide +kernel
theorem dX6_leavesAt_79 : decode cX6_leavesAt 79 = .ok (.invokevirtual 110, 3) := by decide +kernel
theorem dX6_leavesAt_82 : decode cX6_leavesAt 82 = .ok (.aload_n 0, 1) := by decide +kernel
theorem dX6_leavesAt_83 : decode cX6_leavesAt 83 = .ok (.iload_n 1, 1) := by decide +kernel
theorem dX6_leavesAt_84 : decode cX6_leavesAt 84 = .ok (.invokevirtual 104, 3) := by decide +kernel
theorem dX6_leavesAt_87 : decode cX6_leavesAt 87 = .ok (.bipush 10, 2) := by decide +kernel
theorem dX6_leavesAt_89 : decode cX6_leavesAt 89 = .ok (.idiv, 1) := by decide +kernel
theorem dX6_leavesAt_90 : decode cX6_leavesAt 90 = .ok (.iadd, 1) := by decide +kernel
theorem dX6_leavesAt_91 : decode cX6_leavesAt 91 = .ok (.iconst 1, 1) := by decide +kernel
theorem dX6_leavesAt_92 : decode cX6_leavesAt 92 = .ok (.iadd, 1) := by decide +kernel
theorem dX6_leavesAt_93 : decode cX6_leavesAt 93 = .ok (.istore_n 3, 1) := by decide +kernel
theorem dX6_leavesAt_94 : decode cX6_leavesAt 94 = .ok (.goto 3, 3) := by decide +kernel
theorem dX6_leavesAt_97 : decode cX6_leavesAt 97 = .ok (.iload_n 3, 1) := by decide +kernel
theorem dX6_leavesAt_98 : decode cX6_leavesAt 98 = .ok (.bipush 62, 2) := by decide +kernel
theorem dX6_leavesAt_100 : decode cX6_leavesAt 100 = .ok (.if_icmp .le 7, 3) := by decide +kernel
theorem dX6_leavesAt_103 : decode cX6_leavesAt 103 = .ok (.iconst (-1), 1) := by decide +kernel
theorem dX6_leavesAt_104 : decode cX6_leavesAt 104 = .ok (.goto 4, 3) := by decide +kernel
theorem dX6_leavesAt_107 : decode cX6_leavesAt 107 = .ok (.iload_n 3, 1) := by decide +kernel
theorem dX6_leavesAt_108 : decode cX6_leavesAt 108 = .ok (.ireturn, 1) := by decide +kernel
theorem dX6_hasMinute_0 : decode cX6_hasMinute 0 = .ok (.lload_n 0, 1) := by decide +kernel
theorem dX6_hasMinute_1 : decode cX6_hasMinute 1 = .ok (.iload_n 2, 1) := by decide +kernel
theorem dX6_hasMinute_2 : decode cX6_hasMinute 2 = .ok (.lshr, 1) := by decide +kernel
theorem dX6_hasMinute_3 : decode cX6_hasMinute 3 = .ok (.lconst 1, 1) := by decide +kernel
theorem dX6_hasMinute_4 : decode cX6_hasMinute 4 = .ok (.land, 1) := by decide +kernel
theorem dX6_hasMinute_5 : decode cX6_hasMinute 5 = .ok (.lconst 1, 1) := by decide +kernel
theorem dX6_hasMinute_6 : decode cX6_hasMinute 6 = .ok (.lcmp, 1) := by decide +kernel
theorem dX6_hasMinute_7 : decode cX6_hasMinute 7 = .ok (.ifCond .ne 7, 3) := by decide +kernel
theorem dX6_hasMinute_10 : decode cX6_hasMinute 10 = .ok (.iconst 1, 1) := by decide +kernel
theorem dX6_hasMinute_11 : decode cX6_hasMinute 11 = .ok (.goto 4, 3) := by decide +kernel
theorem dX6_hasMinute_14 : decode cX6_hasMinute 14 = .ok (.iconst 0, 1) := by decide +kernel
theorem dX6_hasMinute_15 : decode cX6_hasMinute 15 = .ok (.ireturn, 1) := by decide +kernel
set_option maxRecDepth 20000 in
theorem ggX6_carries_X6_pipeOf : GoodIn wsX6_carries wsX6_pipeOf := goodIn_r _ [6, 7, 27, 28, 29, 30, 31, 32, 33, 34, 35, 36, 37, 38, 39, 40, 41] (by decide +kernel) (by decide +kernel)
set_option maxRecDepth 20000 in
theorem gX6_carries_X6_pipeOf : GoodIn wsX6_carries (wsV RX6 57 RX6 yX6_pipeOf wsX6_pipeOf) := goodIn_app (goodIn_of _ (by decide +kernel)) ggX6_carries_X6_pipeOf
set_option maxRecDepth 20000 in
theorem ggX6_carries_X6_hasMinute : GoodIn wsX6_carries wsX6_hasMinute := goodIn_r _ [10] (by decide +kernel) (by decide +kernel)
set_option maxRecDepth 20000 in
theorem gX6_carries_X6_hasMinute : GoodIn wsX6_carries (va_wsS RX6 113 yX6_hasMinute wsX6_hasMinute) := goodIn_app (goodIn_of _ (by decide +kernel)) ggX6_carries_X6_hasMinute
set_option maxRecDepth 20000 in
theorem ggX6_carries_X6_leavesAt : GoodIn wsX6_carries wsX6_leavesAt := goodIn_r _ [14, 15, 16, 17, 5, 18, 7, 19, 20, 21, 22, 23, 24, 25, 26, 27, 28, 29, 30, 31, 32, 33, 34, 35, 36, 37, 38, 39, 40, 41] (by decide +kernel) (by decide +kernel)
set_option maxRecDepth 20000 in
theorem gX6_carries_X6_leavesAt : GoodIn wsX6_carries (wsV RX6 117 RX6 yX6_leavesAt wsX6_leavesAt) := goodIn_app (goodIn_of _ (by decide +kernel)) ggX6_carries_X6_leavesAt
theorem dX6_carries_0 : decode cX6_carries 0 = .ok (.aload_n 0, 1) := by decide +kernel
theorem dX6_carries_1 : decode cX6_carries 1 = .ok (.iload_n 1, 1) := by decide +kernel
theorem dX6_carries_2 : decode cX6_carries 2 = .ok (.iconst 0, 1) := by decide +kernel
theorem dX6_carries_3 : decode cX6_carries 3 = .ok (.invokevirtual 57, 3) := by decide +kernel
theorem dX6_carries_6 : decode cX6_carries 6 = .ok (.istore_n 2, 1) := by decide +kernel
theorem dX6_carries_7 : decode cX6_carries 7 = .ok (.aload_n 0, 1) := by decide +kernel
theorem dX6_carries_8 : decode cX6_carries 8 = .ok (.iload_n 1, 1) := by decide +kernel
theorem dX6_carries_9 : decode cX6_carries 9 = .ok (.iconst 1, 1) := by decide +kernel
theorem dX6_carries_10 : decode cX6_carries 10 = .ok (.invokevirtual 57, 3) := by decide +kernel
theorem dX6_carries_13 : decode cX6_carries 13 = .ok (.istore_n 3, 1) := by decide +kernel
theorem dX6_carries_14 : decode cX6_carries 14 = .ok (.aload_n 0, 1) := by decide +kernel
theorem dX6_carries_15 : decode cX6_carries 15 = .ok (.getfield 22, 3) := by decide +kernel
theorem dX6_carries_18 : decode cX6_carries 18 = .ok (.iload_n 3, 1) := by decide +kernel
theorem dX6_carries_19 : decode cX6_carries 19 = .ok (.laload, 1) := by decide +kernel
theorem dX6_carries_20 : decode cX6_carries 20 = .ok (.lstore 4, 2) := by decide +kernel
theorem dX6_carries_22 : decode cX6_carries 22 = .ok (.aload_n 0, 1) := by decide +kernel
theorem dX6_carries_23 : decode cX6_carries 23 = .ok (.getfield 22, 3) := by decide +kernel
theorem dX6_carries_26 : decode cX6_carries 26 = .ok (.iload_n 2, 1) := by decide +kernel
theorem dX6_carries_27 : decode cX6_carries 27 = .ok (.laload, 1) := by decide +kernel
theorem dX6_carries_28 : decode cX6_carries 28 = .ok (.lconst 0, 1) := by decide +kernel
theorem dX6_carries_29 : decode cX6_carries 29 = .ok (.lcmp, 1) := by decide +kernel
theorem dX6_carries_30 : decode cX6_carries 30 = .ok (.ifCond .ne 5, 3) := by decide +kernel
theorem dX6_carries_33 : decode cX6_carries 33 = .ok (.iconst 0, 1) := by decide +kernel
theorem dX6_carries_34 : decode cX6_carries 34 = .ok (.ireturn, 1) := by decide +kernel
theorem dX6_carries_35 : decode cX6_carries 35 = .ok (.iconst 0, 1) := by decide +kernel
theorem dX6_carries_36 : decode cX6_carries 36 = .ok (.istore 6, 2) := by decide +kernel
theorem dX6_carries_38 : decode cX6_carries 38 = .ok (.iload 6, 2) := by decide +kernel
theorem dX6_carries_40 : decode cX6_carries 40 = .ok (.bipush 62, 2) := by decide +kernel
theorem dX6_carries_42 : decode cX6_carries 42 = .ok (.if_icmp .gt 93, 3) := by decide +kernel
theorem dX6_carries_45 : decode cX6_carries 45 = .ok (.aload_n 0, 1) := by decide +kernel
theorem dX6_carries_46 : decode cX6_carries 46 = .ok (.getfield 22, 3) := by decide +kernel
theorem dX6_carries_49 : decode cX6_carries 49 = .ok (.iload_n 2, 1) := by decide +kernel
theorem dX6_carries_50 : decode cX6_carries 50 = .ok (.laload, 1) := by decide +kernel
theorem dX6_carries_51 : decode cX6_carries 51 = .ok (.iload 6, 2) := by decide +kernel
theorem dX6_carries_53 : decode cX6_carries 53 = .ok (.invokestatic 113, 3) := by decide +kernel
theorem dX6_carries_56 : decode cX6_carries 56 = .ok (.ifCond .eq 13, 3) := by decide +kernel
theorem dX6_carries_59 : decode cX6_carries 59 = .ok (.aload_n 0, 1) := by decide +kernel
theorem dX6_carries_60 : decode cX6_carries 60 = .ok (.iload_n 2, 1) := by decide +kernel
theorem dX6_carries_61 : decode cX6_carries 61 = .ok (.iload 6, 2) := by decide +kernel
theorem dX6_carries_63 : decode cX6_carries 63 = .ok (.invokevirtual 117, 3) := by decide +kernel
theorem dX6_carries_66 : decode cX6_carries 66 = .ok (.goto 4, 3) := by decide +kernel
theorem dX6_carries_69 : decode cX6_carries 69 = .ok (.iconst (-1), 1) := by decide +kernel
theorem dX6_carries_70 : decode cX6_carries 70 = .ok (.istore 7, 2) := by decide +kernel
theorem dX6_carries_72 : decode cX6_carries 72 = .ok (.aload_n 0, 1) := by decide +kernel
theorem dX6_carries_73 : decode cX6_carries 73 = .ok (.iload_n 1, 1) := by decide +kernel
theorem dX6_carries_74 : decode cX6_carries 74 = .ok (.iconst 2, 1) := by decide +kernel
theorem dX6_carries_75 : decode cX6_carries 75 = .ok (.invokevirtual 57, 3) := by decide +kernel
theorem dX6_carries_78 : decode cX6_carries 78 = .ok (.istore 8, 2) := by decide +kernel
theorem dX6_carries_80 : decode cX6_carries 80 = .ok (.iload 8, 2) := by decide +kernel
theorem dX6_carries_82 : decode cX6_carries 82 = .ok (.aload_n 0, 1) := by decide +kernel
theorem dX6_carries_83 : decode cX6_carries 83 = .ok (.iload_n 1, 1) := by decide +kernel
theorem dX6_carries_84 : decode cX6_carries 84 = .ok (.iconst 3, 1) := by decide +kernel
theorem dX6_carries_85 : decode cX6_carries 85 = .ok (.invokevirtual 57, 3) := by decide +kernel
theorem dX6_carries_88 : decode cX6_carries 88 = .ok (.if_icmp .gt 41, 3) := by decide +kernel
theorem dX6_carries_91 : decode cX6_carries 91 = .ok (.iload 7, 2) := by decide +kernel
theorem dX6_carries_93 : decode cX6_carries 93 = .ok (.iconst (-1), 1) := by decide +kernel
theorem dX6_carries_94 : decode cX6_carries 94 = .ok (.if_icmp .eq 35, 3) := by decide +kernel
theorem dX6_carries_97 : decode cX6_carries 97 = .ok (.iload 7, 2) := by decide +kernel
theorem dX6_carries_99 : decode cX6_carries 99 = .ok (.iload 8, 2) := by decide +kernel
theorem dX6_carries_101 : decode cX6_carries 101 = .ok (.iadd, 1) := by decide +kernel
theorem dX6_carries_102 : decode cX6_carries 102 = .ok (.bipush 62, 2) := by decide +kernel
theorem dX6_carries_104 : decode cX6_carries 104 = .ok (.if_icmp .gt 25, 3) := by decide +kernel
theorem dX6_carries_107 : decode cX6_carries 107 = .ok (.aload_n 0, 1) := by decide +kernel
theorem dX6_carries_108 : decode cX6_carries 108 = .ok (.getfield 22, 3) := by decide +kernel
theorem dX6_carries_111 : decode cX6_carries 111 = .ok (.iload_n 3, 1) := by decide +kernel
theorem dX6_carries_112 : decode cX6_carries 112 = .ok (.dup2, 1) := by decide +kernel
theorem dX6_carries_113 : decode cX6_carries 113 = .ok (.laload, 1) := by decide +kernel
theorem dX6_carries_114 : decode cX6_carries 114 = .ok (.lconst 1, 1) := by decide +kernel
theorem dX6_carries_115 : decode cX6_carries 115 = .ok (.iload 7, 2) := by decide +kernel
theorem dX6_carries_117 : decode cX6_carries 117 = .ok (.iload 8, 2) := by decide +kernel
theorem dX6_carries_119 : decode cX6_carries 119 = .ok (.iadd, 1) := by decide +kernel
theorem dX6_carries_120 : decode cX6_carries 120 = .ok (.lshl, 1) := by decide +kernel
theorem dX6_carries_121 : decode cX6_carries 121 = .ok (.lor, 1) := by decide +kernel
theorem dX6_carries_122 : decode cX6_carries 122 = .ok (.lastore, 1) := by decide +kernel
theorem dX6_carries_123 : decode cX6_carries 123 = .ok (.iinc 8 1, 3) := by decide +kernel
theorem dX6_carries_126 : decode cX6_carries 126 = .ok (.goto (-46), 3) := by decide +kernel
theorem dX6_carries_129 : decode cX6_carries 129 = .ok (.iinc 6 1, 3) := by decide +kernel
theorem dX6_carries_132 : decode cX6_carries 132 = .ok (.goto (-94), 3) := by decide +kernel
theorem dX6_carries_135 : decode cX6_carries 135 = .ok (.aload_n 0, 1) := by decide +kernel
theorem dX6_carries_136 : decode cX6_carries 136 = .ok (.getfield 22, 3) := by decide +kernel
theorem dX6_carries_139 : decode cX6_carries 139 = .ok (.iload_n 3, 1) := by decide +kernel
theorem dX6_carries_140 : decode cX6_carries 140 = .ok (.laload, 1) := by decide +kernel
theorem dX6_carries_141 : decode cX6_carries 141 = .ok (.lload 4, 2) := by decide +kernel
theorem dX6_carries_143 : decode cX6_carries 143 = .ok (.lcmp, 1) := by decide +kernel
theorem dX6_carries_144 : decode cX6_carries 144 = .ok (.ifCond .eq 7, 3) := by decide +kernel
theorem dX6_carries_147 : decode cX6_carries 147 = .ok (.iconst 1, 1) := by decide +kernel
theorem dX6_carries_148 : decode cX6_carries 148 = .ok (.goto 4, 3) := by decide +kernel
theorem dX6_carries_151 : decode cX6_carries 151 = .ok (.iconst 0, 1) := by decide +kernel
theorem dX6_carries_152 : decode cX6_carries 152 = .ok (.ireturn, 1) := by decide +kernel
set_option maxRecDepth 20000 in
theorem ggX6_start_X6_carries : GoodIn wsX6_start wsX6_carries := goodIn_r _ [7, 1, 8, 9, 10, 6, 11, 2, 12, 13, 14, 15, 16, 17, 18, 19, 20, 21, 22, 23, 24, 25, 26, 27, 28, 29, 30, 31, 32, 33, 34, 35, 36, 37, 38, 39, 40, 41, 42, 43, 44, 45] (by decide +kernel) (by decide +kernel)
set_option maxRecDepth 20000 in
theorem gX6_start_X6_carries : GoodIn wsX6_start (wsV RX6 120 RX6 yX6_carries wsX6_carries) := goodIn_app (goodIn_of _ (by decide +kernel)) ggX6_start_X6_carries
theorem dX6_start_0 : decode cX6_start 0 = .ok (.iconst 0, 1) := by decide +kernel
theorem dX6_start_1 : decode cX6_start 1 = .ok (.istore_n 3, 1) := by decide +kernel
theorem dX6_start_2 : decode cX6_start 2 = .ok (.iload_n 3, 1) := by decide +kernel
theorem dX6_start_3 : decode cX6_start 3 = .ok (.bipush 10, 2) := by decide +kernel
theorem dX6_start_5 : decode cX6_start 5 = .ok (.if_icmp .ge 27, 3) := by decide +kernel
theorem dX6_start_8 : decode cX6_start 8 = .ok (.aload_n 0, 1) := by decide +kernel
theorem dX6_start_9 : decode cX6_start 9 = .ok (.getfield 22, 3) := by decide +kernel
theorem dX6_start_12 : decode cX6_start 12 = .ok (.iload_n 3, 1) := by decide +kernel
theorem dX6_start_13 : decode cX6_start 13 = .ok (.iload_n 3, 1) := by decide +kernel
theorem dX6_start_14 : decode cX6_start 14 = .ok (.iload_n 1, 1) := by decide +kernel
theorem dX6_start_15 : decode cX6_start 15 = .ok (.if_icmp .ne 9, 3) := by decide +kernel
theorem dX6_start_18 : decode cX6_start 18 = .ok (.lconst 1, 1) := by decide +kernel
theorem dX6_start_19 : decode cX6_start 19 = .ok (.iload_n 2, 1) := by decide +kernel
theorem dX6_start_20 : decode cX6_start 20 = .ok (.lshl, 1) := by decide +kernel
theorem dX6_start_21 : decode cX6_start 21 = .ok (.goto 4, 3) := by decide +kernel
theorem dX6_start_24 : decode cX6_start 24 = .ok (.lconst 0, 1) := by decide +kernel
theorem dX6_start_25 : decode cX6_start 25 = .ok (.lastore, 1) := by decide +kernel
theorem dX6_start_26 : decode cX6_start 26 = .ok (.iinc 3 1, 3) := by decide +kernel
theorem dX6_start_29 : decode cX6_start 29 = .ok (.goto (-27), 3) := by decide +kernel
theorem dX6_start_32 : decode cX6_start 32 = .ok (.iconst 1, 1) := by decide +kernel
theorem dX6_start_33 : decode cX6_start 33 = .ok (.istore_n 3, 1) := by decide +kernel
theorem dX6_start_34 : decode cX6_start 34 = .ok (.iload_n 3, 1) := by decide +kernel
theorem dX6_start_35 : decode cX6_start 35 = .ok (.ifCond .eq 47, 3) := by decide +kernel
theorem dX6_start_38 : decode cX6_start 38 = .ok (.iconst 0, 1) := by decide +kernel
theorem dX6_start_39 : decode cX6_start 39 = .ok (.istore_n 3, 1) := by decide +kernel
theorem dX6_start_40 : decode cX6_start 40 = .ok (.iconst 0, 1) := by decide +kernel
theorem dX6_start_41 : decode cX6_start 41 = .ok (.istore 4, 2) := by decide +kernel
theorem dX6_start_43 : decode cX6_start 43 = .ok (.iload 4, 2) := by decide +kernel
theorem dX6_start_45 : decode cX6_start 45 = .ok (.aload_n 0, 1) := by decide +kernel
theorem dX6_start_46 : decode cX6_start 46 = .ok (.getfield 7, 3) := by decide +kernel
theorem dX6_start_49 : decode cX6_start 49 = .ok (.iconst 1, 1) := by decide +kernel
theorem dX6_start_50 : decode cX6_start 50 = .ok (.iaload, 1) := by decide +kernel
theorem dX6_start_51 : decode cX6_start 51 = .ok (.if_icmp .ge 28, 3) := by decide +kernel
theorem dX6_start_54 : decode cX6_start 54 = .ok (.aload_n 0, 1) := by decide +kernel
theorem dX6_start_55 : decode cX6_start 55 = .ok (.iload 4, 2) := by decide +kernel
theorem dX6_start_57 : decode cX6_start 57 = .ok (.invokevirtual 120, 3) := by decide +kernel
theorem dX6_start_60 : decode cX6_start 60 = .ok (.ifCond .ne 7, 3) := by decide +kernel
theorem dX6_start_63 : decode cX6_start 63 = .ok (.iload_n 3, 1) := by decide +kernel
theorem dX6_start_64 : decode cX6_start 64 = .ok (.ifCond .eq 7, 3) := by decide +kernel
theorem dX6_start_67 : decode cX6_start 67 = .ok (.iconst 1, 1) := by decide +kernel
theorem dX6_start_68 : decode cX6_start 68 = .ok (.goto 4, 3) := by decide +kernel
theorem dX6_start_71 : decode cX6_start 71 = .ok (.iconst 0, 1) := by decide +kernel
theorem dX6_start_72 : decode cX6_start 72 = .ok (.istore_n 3, 1) := by decide +kernel
theorem dX6_start_73 : decode cX6_start 73 = .ok (.iinc 4 1, 3) := by decide +kernel
theorem dX6_start_76 : decode cX6_start 76 = .ok (.goto (-33), 3) := by decide +kernel
theorem dX6_start_79 : decode cX6_start 79 = .ok (.goto (-45), 3) := by decide +kernel
theorem dX6_start_82 : decode cX6_start 82 = .ok (.return_, 1) := by decide +kernel
set_option maxRecDepth 20000 in
theorem ggX6_isStart_X6_isShaft : GoodIn wsX6_isStart wsX6_isShaft := goodIn_r _ [5, 6, 7, 8, 4, 9, 10, 11, 12, 13, 14, 15, 16, 17, 18, 19, 20, 21, 22, 23, 24] (by decide +kernel) (by decide +kernel)
set_option maxRecDepth 20000 in
theorem gX6_isStart_X6_isShaft : GoodIn wsX6_isStart (wsV RX6 65 RX6 yX6_isShaft wsX6_isShaft) := goodIn_app (goodIn_of _ (by decide +kernel)) ggX6_isStart_X6_isShaft
set_option maxRecDepth 20000 in
theorem ggX6_isStart_X6_in : GoodIn wsX6_isStart wsX6_in := goodIn_r _ [9] (by decide +kernel) (by decide +kernel)
set_option maxRecDepth 20000 in
theorem gX6_isStart_X6_in : GoodIn wsX6_isStart (va_wsS RX6 53 yX6_in wsX6_in) := goodIn_app (goodIn_of _ (by decide +kernel)) ggX6_isStart_X6_in
theorem dX6_isStart_0 : decode cX6_isStart 0 = .ok (.aload_n 0, 1) := by decide +kernel
theorem dX6_isStart_1 : decode cX6_isStart 1 = .ok (.iload_n 1, 1) := by decide +kernel
theorem dX6_isStart_2 : decode cX6_isStart 2 = .ok (.invokevirtual 65, 3) := by decide +kernel
theorem dX6_isStart_5 : decode cX6_isStart 5 = .ok (.ifCond .eq 17, 3) := by decide +kernel
theorem dX6_isStart_8 : decode cX6_isStart 8 = .ok (.iload_n 2, 1) := by decide +kernel
theorem dX6_isStart_9 : decode cX6_isStart 9 = .ok (.iconst 0, 1) := by decide +kernel
theorem dX6_isStart_10 : decode cX6_isStart 10 = .ok (.bipush 30, 2) := by decide +kernel
theorem dX6_isStart_12 : decode cX6_isStart 12 = .ok (.invokestatic 53, 3) := by decide +kernel
theorem dX6_isStart_15 : decode cX6_isStart 15 = .ok (.ifCond .eq 7, 3) := by decide +kernel
theorem dX6_isStart_18 : decode cX6_isStart 18 = .ok (.iconst 1, 1) := by decide +kernel
theorem dX6_isStart_19 : decode cX6_isStart 19 = .ok (.goto 4, 3) := by decide +kernel
theorem dX6_isStart_22 : decode cX6_isStart 22 = .ok (.iconst 0, 1) := by decide +kernel
theorem dX6_isStart_23 : decode cX6_isStart 23 = .ok (.ireturn, 1) := by decide +kernel
set_option maxRecDepth 20000 in
theorem ggX6_comesOf_X6_start : GoodIn wsX6_comesOf wsX6_start := goodIn_r _ [6, 1, 7, 8, 9, 10, 5, 11, 12, 13, 14, 15, 16, 17, 18, 19, 20, 21, 22, 23, 24, 25, 26, 27, 28, 29, 30, 31, 32, 33, 34, 35, 36, 37, 38, 39, 40, 41, 42, 43, 44, 45, 46, 47, 48, 49] (by decide +kernel) (by decide +kernel)
set_option maxRecDepth 20000 in
theorem gX6_comesOf_X6_start : GoodIn wsX6_comesOf (wsV RX6 123 RX6 yX6_start wsX6_start) := goodIn_app (goodIn_of _ (by decide +kernel)) ggX6_comesOf_X6_start
theorem dX6_comesOf_0 : decode cX6_comesOf 0 = .ok (.aload_n 0, 1) := by decide +kernel
theorem dX6_comesOf_1 : decode cX6_comesOf 1 = .ok (.iload_n 1, 1) := by decide +kernel
theorem dX6_comesOf_2 : decode cX6_comesOf 2 = .ok (.iload_n 2, 1) := by decide +kernel
theorem dX6_comesOf_3 : decode cX6_comesOf 3 = .ok (.invokevirtual 123, 3) := by decide +kernel
theorem dX6_comesOf_6 : decode cX6_comesOf 6 = .ok (.aload_n 0, 1) := by decide +kernel
theorem dX6_comesOf_7 : decode cX6_comesOf 7 = .ok (.getfield 22, 3) := by decide +kernel
theorem dX6_comesOf_10 : decode cX6_comesOf 10 = .ok (.iload_n 3, 1) := by decide +kernel
theorem dX6_comesOf_11 : decode cX6_comesOf 11 = .ok (.laload, 1) := by decide +kernel
theorem dX6_comesOf_12 : decode cX6_comesOf 12 = .ok (.lreturn, 1) := by decide +kernel
set_option maxRecDepth 20000 in
theorem ggX6_comes_X6_isStart : GoodIn wsX6_comes wsX6_isStart := goodIn_r _ [5, 6, 7, 8, 4, 9, 10, 11, 12, 13, 55, 56, 57, 58, 59, 60, 61, 62, 63, 64, 65, 66, 67, 68, 69] (by decide +kernel) (by decide +kernel)
set_option maxRecDepth 20000 in
theorem gX6_comes_X6_isStart : GoodIn wsX6_comes (wsV RX6 127 RX6 yX6_isStart wsX6_isStart) := goodIn_app (goodIn_of _ (by decide +kernel)) ggX6_comes_X6_isStart
set_option maxRecDepth 20000 in
theorem ggX6_comes_X6_isShaft : GoodIn wsX6_comes wsX6_isShaft := goodIn_r _ [9, 10, 11, 12, 4, 13, 55, 56, 57, 58, 59, 60, 61, 62, 63, 64, 65, 66, 67, 68, 69] (by decide +kernel) (by decide +kernel)
set_option maxRecDepth 20000 in
theorem gX6_comes_X6_isShaft : GoodIn wsX6_comes (wsV RX6 65 RX6 yX6_isShaft wsX6_isShaft) := goodIn_app (goodIn_of _ (by decide +kernel)) ggX6_comes_X6_isShaft
set_option maxRecDepth 20000 in
theorem ggX6_comes_X6_comesOf : GoodIn wsX6_comes wsX6_comesOf := goodIn_r _ [17, 18, 19, 20, 21, 4, 22, 10, 23, 24, 25, 26, 27, 28, 29, 30, 31, 32, 33, 34, 35, 36, 37, 38, 39, 40, 41, 42, 43, 44, 45, 46, 47, 48, 49, 55, 56, 57, 58, 59, 60, 61, 62, 63, 64, 65, 66, 67, 68, 69] (by decide +kernel) (by decide +kernel)
set_option maxRecDepth 20000 in
theorem gX6_comes_X6_comesOf : GoodIn wsX6_comes (wsV RX6 130 RX6 yX6_comesOf wsX6_comesOf) := goodIn_app (goodIn_of _ (by decide +kernel)) ggX6_comes_X6_comesOf
set_option maxRecDepth 20000 in
theorem ggX6_comes_X6_refuses : GoodIn wsX6_comes wsX6_refuses := goodIn_r _ [53, 54, 55, 56, 57, 58, 59, 60, 61, 62, 63, 64, 65, 66, 67, 68, 69] (by decide +kernel) (by decide +kernel)
set_option maxRecDepth 20000 in
theorem gX6_comes_X6_refuses : GoodIn wsX6_comes (wsV RX6 46 RX6 yX6_refuses wsX6_refuses) := goodIn_app (goodIn_of _ (by decide +kernel)) ggX6_comes_X6_refuses
theorem dX6_comes_0 : decode cX6_comes 0 = .ok (.aload_n 0, 1) := by decide +kernel
theorem dX6_comes_1 : decode cX6_comes 1 = .ok (.iload_n 1, 1) := by decide +kernel
theorem dX6_comes_2 : decode cX6_comes 2 = .ok (.iload_n 2, 1) := by decide +kernel
theorem dX6_comes_3 : decode cX6_comes 3 = .ok (.invokevirtual 127, 3) := by decide +kernel
theorem dX6_comes_6 : decode cX6_comes 6 = .ok (.ifCond .eq 21, 3) := by decide +kernel
theorem dX6_comes_9 : decode cX6_comes 9 = .ok (.aload_n 0, 1) := by decide +kernel
theorem dX6_comes_10 : decode cX6_comes 10 = .ok (.iload_n 3, 1) := by decide +kernel
theorem dX6_comes_11 : decode cX6_comes 11 = .ok (.invokevirtual 65, 3) := by decide +kernel
theorem dX6_comes_14 : decode cX6_comes 14 = .ok (.ifCond .eq 13, 3) := by decide +kernel
theorem dX6_comes_17 : decode cX6_comes 17 = .ok (.aload_n 0, 1) := by decide +kernel
theorem dX6_comes_18 : decode cX6_comes 18 = .ok (.iload_n 1, 1) := by decide +kernel
theorem dX6_comes_19 : decode cX6_comes 19 = .ok (.iload_n 2, 1) := by decide +kernel
theorem dX6_comes_20 : decode cX6_comes 20 = .ok (.iload_n 3, 1) := by decide +kernel
theorem dX6_comes_21 : decode cX6_comes 21 = .ok (.invokevirtual 130, 3) := by decide +kernel
theorem dX6_comes_24 : decode cX6_comes 24 = .ok (.goto 10, 3) := by decide +kernel
theorem dX6_comes_27 : decode cX6_comes 27 = .ok (.aload_n 0, 1) := by decide +kernel
theorem dX6_comes_28 : decode cX6_comes 28 = .ok (.bipush (-2), 2) := by decide +kernel
theorem dX6_comes_30 : decode cX6_comes 30 = .ok (.invokevirtual 46, 3) := by decide +kernel
theorem dX6_comes_33 : decode cX6_comes 33 = .ok (.i2l, 1) := by decide +kernel
theorem dX6_comes_34 : decode cX6_comes 34 = .ok (.lreturn, 1) := by decide +kernel
set_option maxRecDepth 20000 in
theorem ggX6_lastOf_X6_hasMinute : GoodIn wsX6_lastOf wsX6_hasMinute := goodIn_r _ [4] (by decide +kernel) (by decide +kernel)
set_option maxRecDepth 20000 in
theorem gX6_lastOf_X6_hasMinute : GoodIn wsX6_lastOf (va_wsS RX6 113 yX6_hasMinute wsX6_hasMinute) := goodIn_app (goodIn_of _ (by decide +kernel)) ggX6_lastOf_X6_hasMinute
theorem dX6_lastOf_0 : decode cX6_lastOf 0 = .ok (.iconst (-1), 1) := by decide +kernel
theorem dX6_lastOf_1 : decode cX6_lastOf 1 = .ok (.istore_n 2, 1) := by decide +kernel
theorem dX6_lastOf_2 : decode cX6_lastOf 2 = .ok (.iconst 0, 1) := by decide +kernel
theorem dX6_lastOf_3 : decode cX6_lastOf 3 = .ok (.istore_n 3, 1) := by decide +kernel
theorem dX6_lastOf_4 : decode cX6_lastOf 4 = .ok (.iload_n 3, 1) := by decide +kernel
theorem dX6_lastOf_5 : decode cX6_lastOf 5 = .ok (.bipush 62, 2) := by decide +kernel
theorem dX6_lastOf_7 : decode cX6_lastOf 7 = .ok (.if_icmp .gt 23, 3) := by decide +kernel
theorem dX6_lastOf_10 : decode cX6_lastOf 10 = .ok (.lload_n 0, 1) := by decide +kernel
theorem dX6_lastOf_11 : decode cX6_lastOf 11 = .ok (.iload_n 3, 1) := by decide +kernel
theorem dX6_lastOf_12 : decode cX6_lastOf 12 = .ok (.invokestatic 113, 3) := by decide +kernel
theorem dX6_lastOf_15 : decode cX6_lastOf 15 = .ok (.ifCond .eq 7, 3) := by decide +kernel
theorem dX6_lastOf_18 : decode cX6_lastOf 18 = .ok (.iload_n 3, 1) := by decide +kernel
theorem dX6_lastOf_19 : decode cX6_lastOf 19 = .ok (.goto 4, 3) := by decide +kernel
theorem dX6_lastOf_22 : decode cX6_lastOf 22 = .ok (.iload_n 2, 1) := by decide +kernel
theorem dX6_lastOf_23 : decode cX6_lastOf 23 = .ok (.istore_n 2, 1) := by decide +kernel
theorem dX6_lastOf_24 : decode cX6_lastOf 24 = .ok (.iinc 3 1, 3) := by decide +kernel
theorem dX6_lastOf_27 : decode cX6_lastOf 27 = .ok (.goto (-23), 3) := by decide +kernel
theorem dX6_lastOf_30 : decode cX6_lastOf 30 = .ok (.iload_n 2, 1) := by decide +kernel
theorem dX6_lastOf_31 : decode cX6_lastOf 31 = .ok (.ireturn, 1) := by decide +kernel
set_option maxRecDepth 20000 in
theorem ggX6_times_X6_isStart : GoodIn wsX6_times wsX6_isStart := goodIn_r _ [5, 6, 7, 8, 4, 9, 10, 11, 12, 13, 58, 59, 60, 61, 62, 63, 64, 65, 66, 67, 68, 69, 70, 71, 72] (by decide +kernel) (by decide +kernel)
set_option maxRecDepth 20000 in
theorem gX6_times_X6_isStart : GoodIn wsX6_times (wsV RX6 127 RX6 yX6_isStart wsX6_isStart) := goodIn_app (goodIn_of _ (by decide +kernel)) ggX6_times_X6_isStart
set_option maxRecDepth 20000 in
theorem ggX6_times_X6_isShaft : GoodIn wsX6_times wsX6_isShaft := goodIn_r _ [9, 10, 11, 12, 4, 13, 58, 59, 60, 61, 62, 63, 64, 65, 66, 67, 68, 69, 70, 71, 72] (by decide +kernel) (by decide +kernel)
set_option maxRecDepth 20000 in
theorem gX6_times_X6_isShaft : GoodIn wsX6_times (wsV RX6 65 RX6 yX6_isShaft wsX6_isShaft) := goodIn_app (goodIn_of _ (by decide +kernel)) ggX6_times_X6_isShaft
set_option maxRecDepth 20000 in
theorem ggX6_times_X6_in : GoodIn wsX6_times wsX6_in := goodIn_r _ [13] (by decide +kernel) (by decide +kernel)
set_option maxRecDepth 20000 in
theorem gX6_times_X6_in : GoodIn wsX6_times (va_wsS RX6 53 yX6_in wsX6_in) := goodIn_app (goodIn_of _ (by decide +kernel)) ggX6_times_X6_in
set_option maxRecDepth 20000 in
theorem ggX6_times_X6_refuses : GoodIn wsX6_times wsX6_refuses := goodIn_r _ [17, 18, 58, 59, 60, 61, 62, 63, 64, 65, 66, 67, 68, 69, 70, 71, 72] (by decide +kernel) (by decide +kernel)
set_option maxRecDepth 20000 in
theorem gX6_times_X6_refuses : GoodIn wsX6_times (wsV RX6 46 RX6 yX6_refuses wsX6_refuses) := goodIn_app (goodIn_of _ (by decide +kernel)) ggX6_times_X6_refuses
set_option maxRecDepth 20000 in
theorem ggX6_times_X6_comesOf : GoodIn wsX6_times wsX6_comesOf := goodIn_r _ [22, 23, 24, 25, 26, 4, 27, 10, 28, 29, 30, 31, 32, 33, 34, 35, 36, 37, 38, 39, 40, 41, 42, 43, 44, 45, 46, 47, 48, 49, 50, 51, 52, 53, 54, 58, 59, 60, 61, 62, 63, 64, 65, 66, 67, 68, 69, 70, 71, 72] (by decide +kernel) (by decide +kernel)
set_option maxRecDepth 20000 in
theorem gX6_times_X6_comesOf : GoodIn wsX6_times (wsV RX6 130 RX6 yX6_comesOf wsX6_comesOf) := goodIn_app (goodIn_of _ (by decide +kernel)) ggX6_times_X6_comesOf
set_option maxRecDepth 20000 in
theorem ggX6_times_X6_hasMinute : GoodIn wsX6_times wsX6_hasMinute := goodIn_r _ [38] (by decide +kernel) (by decide +kernel)
set_option maxRecDepth 20000 in
theorem gX6_times_X6_hasMinute : GoodIn wsX6_times (va_wsS RX6 113 yX6_hasMinute wsX6_hasMinute) := goodIn_app (goodIn_of _ (by decide +kernel)) ggX6_times_X6_hasMinute
set_option maxRecDepth 20000 in
theorem ggX6_times_X6_lastOf : GoodIn wsX6_times wsX6_lastOf := goodIn_r _ [57, 36, 37, 4, 38] (by decide +kernel) (by decide +kernel)
set_option maxRecDepth 20000 in
theorem gX6_times_X6_lastOf : GoodIn wsX6_times (va_wsS RX6 134 yX6_lastOf wsX6_lastOf) := goodIn_app (goodIn_of _ (by decide +kernel)) ggX6_times_X6_lastOf
theorem dX6_times_0 : decode cX6_times 0 = .ok (.aload_n 0, 1) := by decide +kernel
theorem dX6_times_1 : decode cX6_times 1 = .ok (.iload_n 1, 1) := by decide +kernel
theorem dX6_times_2 : decode cX6_times 2 = .ok (.iload_n 2, 1) := by decide +kernel
theorem dX6_times_3 : decode cX6_times 3 = .ok (.invokevirtual 127, 3) := by decide +kernel
theorem dX6_times_6 : decode cX6_times 6 = .ok (.ifCond .eq 21, 3) := by decide +kernel
theorem dX6_times_9 : decode cX6_times 9 = .ok (.aload_n 0, 1) := by decide +kernel
theorem dX6_times_10 : decode cX6_times 10 = .ok (.iload_n 3, 1) := by decide +kernel
theorem dX6_times_11 : decode cX6_times 11 = .ok (.invokevirtual 65, 3) := by decide +kernel
theorem dX6_times_14 : decode cX6_times 14 = .ok (.ifCond .eq 13, 3) := by decide +kernel
theorem dX6_times_17 : decode cX6_times 17 = .ok (.iload 4, 2) := by decide +kernel
theorem dX6_times_19 : decode cX6_times 19 = .ok (.iconst 0, 1) := by decide +kernel
theorem dX6_times_20 : decode cX6_times 20 = .ok (.iconst 2, 1) := by decide +kernel
theorem dX6_times_21 : decode cX6_times 21 = .ok (.invokestatic 53, 3) := by decide +kernel
theorem dX6_times_24 : decode cX6_times 24 = .ok (.ifCond .ne 10, 3) := by decide +kernel
theorem dX6_times_27 : decode cX6_times 27 = .ok (.aload_n 0, 1) := by decide +kernel
theorem dX6_times_28 : decode cX6_times 28 = .ok (.bipush (-2), 2) := by decide +kernel
theorem dX6_times_30 : decode cX6_times 30 = .ok (.invokevirtual 46, 3) := by decide +kernel
theorem dX6_times_33 : decode cX6_times 33 = .ok (.ireturn, 1) := by decide +kernel
theorem dX6_times_34 : decode cX6_times 34 = .ok (.aload_n 0, 1) := by decide +kernel
theorem dX6_times_35 : decode cX6_times 35 = .ok (.iload_n 1, 1) := by decide +kernel
theorem dX6_times_36 : decode cX6_times 36 = .ok (.iload_n 2, 1) := by decide +kernel
theorem dX6_times_37 : decode cX6_times 37 = .ok (.iload_n 3, 1) := by decide +kernel
theorem dX6_times_38 : decode cX6_times 38 = .ok (.invokevirtual 130, 3) := by decide +kernel
theorem dX6_times_41 : decode cX6_times 41 = .ok (.lstore 5, 2) := by decide +kernel
theorem dX6_times_43 : decode cX6_times 43 = .ok (.iconst 0, 1) := by decide +kernel
theorem dX6_times_44 : decode cX6_times 44 = .ok (.istore 7, 2) := by decide +kernel
theorem dX6_times_46 : decode cX6_times 46 = .ok (.iconst (-1), 1) := by decide +kernel
theorem dX6_times_47 : decode cX6_times 47 = .ok (.istore 8, 2) := by decide +kernel
theorem dX6_times_49 : decode cX6_times 49 = .ok (.bipush 62, 2) := by decide +kernel
theorem dX6_times_51 : decode cX6_times 51 = .ok (.istore 9, 2) := by decide +kernel
theorem dX6_times_53 : decode cX6_times 53 = .ok (.iload 9, 2) := by decide +kernel
theorem dX6_times_55 : decode cX6_times 55 = .ok (.ifCond .lt 48, 3) := by decide +kernel
theorem dX6_times_58 : decode cX6_times 58 = .ok (.lload 5, 2) := by decide +kernel
theorem dX6_times_60 : decode cX6_times 60 = .ok (.iload 9, 2) := by decide +kernel
theorem dX6_times_62 : decode cX6_times 62 = .ok (.invokestatic 113, 3) := by decide +kernel
theorem dX6_times_65 : decode cX6_times 65 = .ok (.ifCond .eq 8, 3) := by decide +kernel
theorem dX6_times_68 : decode cX6_times 68 = .ok (.iload 9, 2) := by decide +kernel
theorem dX6_times_70 : decode cX6_times 70 = .ok (.goto 5, 3) := by decide +kernel
theorem dX6_times_73 : decode cX6_times 73 = .ok (.iload 8, 2) := by decide +kernel
theorem dX6_times_75 : decode cX6_times 75 = .ok (.istore 8, 2) := by decide +kernel
theorem dX6_times_77 : decode cX6_times 77 = .ok (.iload 7, 2) := by decide +kernel
theorem dX6_times_79 : decode cX6_times 79 = .ok (.lload 5, 2) := by decide +kernel
theorem dX6_times_81 : decode cX6_times 81 = .ok (.iload 9, 2) := by decide +kernel
theorem dX6_times_83 : decode cX6_times 83 = .ok (.invokestatic 113, 3) := by decide +kernel
theorem dX6_times_86 : decode cX6_times 86 = .ok (.ifCond .eq 7, 3) := by decide +kernel
theorem dX6_times_89 : decode cX6_times 89 = .ok (.iconst 1, 1) := by decide +kernel
theorem dX6_times_90 : decode cX6_times 90 = .ok (.goto 4, 3) := by decide +kernel
theorem dX6_times_93 : decode cX6_times 93 = .ok (.iconst 0, 1) := by decide +kernel
theorem dX6_times_94 : decode cX6_times 94 = .ok (.iadd, 1) := by decide +kernel
theorem dX6_times_95 : decode cX6_times 95 = .ok (.istore 7, 2) := by decide +kernel
theorem dX6_times_97 : decode cX6_times 97 = .ok (.iinc 9 (-1), 3) := by decide +kernel
theorem dX6_times_100 : decode cX6_times 100 = .ok (.goto (-47), 3) := by decide +kernel
theorem dX6_times_103 : decode cX6_times 103 = .ok (.iload 4, 2) := by decide +kernel
theorem dX6_times_105 : decode cX6_times 105 = .ok (.ifCond .ne 8, 3) := by decide +kernel
theorem dX6_times_108 : decode cX6_times 108 = .ok (.iload 8, 2) := by decide +kernel
theorem dX6_times_110 : decode cX6_times 110 = .ok (.goto 19, 3) := by decide +kernel
theorem dX6_times_113 : decode cX6_times 113 = .ok (.iload 4, 2) := by decide +kernel
theorem dX6_times_115 : decode cX6_times 115 = .ok (.iconst 1, 1) := by decide +kernel
theorem dX6_times_116 : decode cX6_times 116 = .ok (.if_icmp .ne 11, 3) := by decide +kernel
theorem dX6_times_119 : decode cX6_times 119 = .ok (.lload 5, 2) := by decide +kernel
theorem dX6_times_121 : decode cX6_times 121 = .ok (.invokestatic 134, 3) := by decide +kernel
theorem dX6_times_124 : decode cX6_times 124 = .ok (.goto 5, 3) := by decide +kernel
theorem dX6_times_127 : decode cX6_times 127 = .ok (.iload 7, 2) := by decide +kernel
theorem dX6_times_129 : decode cX6_times 129 = .ok (.ireturn, 1) := by decide +kernel
set_option maxRecDepth 20000 in
theorem ggX6_leaves_X6_isShaft : GoodIn wsX6_leaves wsX6_isShaft := goodIn_r _ [5, 6, 7, 8, 4, 9, 31, 32, 33, 34, 35, 36, 37, 38, 39, 40, 41, 42, 43, 44, 45] (by decide +kernel) (by decide +kernel)
set_option maxRecDepth 20000 in
theorem gX6_leaves_X6_isShaft : GoodIn wsX6_leaves (wsV RX6 65 RX6 yX6_isShaft wsX6_isShaft) := goodIn_app (goodIn_of _ (by decide +kernel)) ggX6_leaves_X6_isShaft
set_option maxRecDepth 20000 in
theorem ggX6_leaves_X6_in : GoodIn wsX6_leaves wsX6_in := goodIn_r _ [9] (by decide +kernel) (by decide +kernel)
set_option maxRecDepth 20000 in
theorem gX6_leaves_X6_in : GoodIn wsX6_leaves (va_wsS RX6 53 yX6_in wsX6_in) := goodIn_app (goodIn_of _ (by decide +kernel)) ggX6_leaves_X6_in
set_option maxRecDepth 20000 in
theorem ggX6_leaves_X6_leavesAt : GoodIn wsX6_leaves wsX6_leavesAt := goodIn_r _ [13, 14, 15, 16, 4, 17, 6, 18, 19, 20, 21, 22, 23, 24, 25, 31, 32, 33, 34, 35, 36, 37, 38, 39, 40, 41, 42, 43, 44, 45] (by decide +kernel) (by decide +kernel)
set_option maxRecDepth 20000 in
theorem gX6_leaves_X6_leavesAt : GoodIn wsX6_leaves (wsV RX6 117 RX6 yX6_leavesAt wsX6_leavesAt) := goodIn_app (goodIn_of _ (by decide +kernel)) ggX6_leaves_X6_leavesAt
set_option maxRecDepth 20000 in
theorem ggX6_leaves_X6_refuses : GoodIn wsX6_leaves wsX6_refuses := goodIn_r _ [29, 30, 31, 32, 33, 34, 35, 36, 37, 38, 39, 40, 41, 42, 43, 44, 45] (by decide +kernel) (by decide +kernel)
set_option maxRecDepth 20000 in
theorem gX6_leaves_X6_refuses : GoodIn wsX6_leaves (wsV RX6 46 RX6 yX6_refuses wsX6_refuses) := goodIn_app (goodIn_of _ (by decide +kernel)) ggX6_leaves_X6_refuses
theorem dX6_leaves_0 : decode cX6_leaves 0 = .ok (.aload_n 0, 1) := by decide +kernel
theorem dX6_leaves_1 : decode cX6_leaves 1 = .ok (.iload_n 1, 1) := by decide +kernel
theorem dX6_leaves_2 : decode cX6_leaves 2 = .ok (.invokevirtual 65, 3) := by decide +kernel
theorem dX6_leaves_5 : decode cX6_leaves 5 = .ok (.ifCond .eq 22, 3) := by decide +kernel
theorem dX6_leaves_8 : decode cX6_leaves 8 = .ok (.iload_n 2, 1) := by decide +kernel
theorem dX6_leaves_9 : decode cX6_leaves 9 = .ok (.iconst 0, 1) := by decide +kernel
theorem dX6_leaves_10 : decode cX6_leaves 10 = .ok (.bipush 62, 2) := by decide +kernel
theorem dX6_leaves_12 : decode cX6_leaves 12 = .ok (.invokestatic 53, 3) := by decide +kernel
theorem dX6_leaves_15 : decode cX6_leaves 15 = .ok (.ifCond .eq 12, 3) := by decide +kernel
theorem dX6_leaves_18 : decode cX6_leaves 18 = .ok (.aload_n 0, 1) := by decide +kernel
theorem dX6_leaves_19 : decode cX6_leaves 19 = .ok (.iload_n 1, 1) := by decide +kernel
theorem dX6_leaves_20 : decode cX6_leaves 20 = .ok (.iload_n 2, 1) := by decide +kernel
theorem dX6_leaves_21 : decode cX6_leaves 21 = .ok (.invokevirtual 117, 3) := by decide +kernel
theorem dX6_leaves_24 : decode cX6_leaves 24 = .ok (.goto 9, 3) := by decide +kernel
theorem dX6_leaves_27 : decode cX6_leaves 27 = .ok (.aload_n 0, 1) := by decide +kernel
theorem dX6_leaves_28 : decode cX6_leaves 28 = .ok (.bipush (-2), 2) := by decide +kernel
theorem dX6_leaves_30 : decode cX6_leaves 30 = .ok (.invokevirtual 46, 3) := by decide +kernel
theorem dX6_leaves_33 : decode cX6_leaves 33 = .ok (.ireturn, 1) := by decide +kernel
set_option maxRecDepth 20000 in
theorem ggX6_isFit_X6_start : GoodIn wsX6_isFit wsX6_start := goodIn_r _ [7, 2, 1, 8, 9, 10, 6, 11, 12, 13, 14, 15, 16, 17, 18, 19, 20, 21, 22, 23, 24, 25, 26, 27, 28, 29, 30, 31, 32, 33, 34, 38, 39, 40, 41, 42, 43, 44, 45, 46, 47, 48, 49, 50, 51, 52] (by decide +kernel) (by decide +kernel)
set_option maxRecDepth 20000 in
theorem gX6_isFit_X6_start : GoodIn wsX6_isFit (wsV RX6 123 RX6 yX6_start wsX6_start) := goodIn_app (goodIn_of _ (by decide +kernel)) ggX6_isFit_X6_start
set_option maxRecDepth 20000 in
theorem ggX6_isFit_X6_hasMinute : GoodIn wsX6_isFit wsX6_hasMinute := goodIn_r _ [18] (by decide +kernel) (by decide +kernel)
set_option maxRecDepth 20000 in
theorem gX6_isFit_X6_hasMinute : GoodIn wsX6_isFit (va_wsS RX6 113 yX6_hasMinute wsX6_hasMinute) := goodIn_app (goodIn_of _ (by decide +kernel)) ggX6_isFit_X6_hasMinute
set_option maxRecDepth 20000 in
theorem ggX6_isFit_X6_lastOf : GoodIn wsX6_isFit wsX6_lastOf := goodIn_r _ [37, 16, 17, 6, 18] (by decide +kernel) (by decide +kernel)
set_option maxRecDepth 20000 in
theorem gX6_isFit_X6_lastOf : GoodIn wsX6_isFit (va_wsS RX6 134 yX6_lastOf wsX6_lastOf) := goodIn_app (goodIn_of _ (by decide +kernel)) ggX6_isFit_X6_lastOf
theorem dX6_isFit_0 : decode cX6_isFit 0 = .ok (.aload_n 0, 1) := by decide +kernel
theorem dX6_isFit_1 : decode cX6_isFit 1 = .ok (.iload_n 1, 1) := by decide +kernel
theorem dX6_isFit_2 : decode cX6_isFit 2 = .ok (.iload_n 2, 1) := by decide +kernel
theorem dX6_isFit_3 : decode cX6_isFit 3 = .ok (.invokevirtual 123, 3) := by decide +kernel
theorem dX6_isFit_6 : decode cX6_isFit 6 = .ok (.iconst 1, 1) := by decide +kernel
theorem dX6_isFit_7 : decode cX6_isFit 7 = .ok (.istore_n 3, 1) := by decide +kernel
theorem dX6_isFit_8 : decode cX6_isFit 8 = .ok (.iconst 0, 1) := by decide +kernel
theorem dX6_isFit_9 : decode cX6_isFit 9 = .ok (.istore 4, 2) := by decide +kernel
theorem dX6_isFit_11 : decode cX6_isFit 11 = .ok (.iload 4, 2) := by decide +kernel
theorem dX6_isFit_13 : decode cX6_isFit 13 = .ok (.aload_n 0, 1) := by decide +kernel
theorem dX6_isFit_14 : decode cX6_isFit 14 = .ok (.getfield 7, 3) := by decide +kernel
theorem dX6_isFit_17 : decode cX6_isFit 17 = .ok (.iconst 2, 1) := by decide +kernel
theorem dX6_isFit_18 : decode cX6_isFit 18 = .ok (.iaload, 1) := by decide +kernel
theorem dX6_isFit_19 : decode cX6_isFit 19 = .ok (.if_icmp .ge 99, 3) := by decide +kernel
theorem dX6_isFit_22 : decode cX6_isFit 22 = .ok (.bipush 87, 2) := by decide +kernel
theorem dX6_isFit_24 : decode cX6_isFit 24 = .ok (.iconst 3, 1) := by decide +kernel
theorem dX6_isFit_25 : decode cX6_isFit 25 = .ok (.iload 4, 2) := by decide +kernel
theorem dX6_isFit_27 : decode cX6_isFit 27 = .ok (.imul, 1) := by decide +kernel
theorem dX6_isFit_28 : decode cX6_isFit 28 = .ok (.iadd, 1) := by decide +kernel
theorem dX6_isFit_29 : decode cX6_isFit 29 = .ok (.istore 5, 2) := by decide +kernel
theorem dX6_isFit_31 : decode cX6_isFit 31 = .ok (.aload_n 0, 1) := by decide +kernel
theorem dX6_isFit_32 : decode cX6_isFit 32 = .ok (.getfield 22, 3) := by decide +kernel
theorem dX6_isFit_35 : decode cX6_isFit 35 = .ok (.aload_n 0, 1) := by decide +kernel
theorem dX6_isFit_36 : decode cX6_isFit 36 = .ok (.getfield 7, 3) := by decide +kernel
theorem dX6_isFit_39 : decode cX6_isFit 39 = .ok (.iload 5, 2) := by decide +kernel
theorem dX6_isFit_41 : decode cX6_isFit 41 = .ok (.iconst 1, 1) := by decide +kernel
theorem dX6_isFit_42 : decode cX6_isFit 42 = .ok (.iadd, 1) := by decide +kernel
theorem dX6_isFit_43 : decode cX6_isFit 43 = .ok (.iaload, 1) := by decide +kernel
theorem dX6_isFit_44 : decode cX6_isFit 44 = .ok (.laload, 1) := by decide +kernel
theorem dX6_isFit_45 : decode cX6_isFit 45 = .ok (.lstore 6, 2) := by decide +kernel
theorem dX6_isFit_47 : decode cX6_isFit 47 = .ok (.iload_n 3, 1) := by decide +kernel
theorem dX6_isFit_48 : decode cX6_isFit 48 = .ok (.ifCond .eq 62, 3) := by decide +kernel
theorem dX6_isFit_51 : decode cX6_isFit 51 = .ok (.aload_n 0, 1) := by decide +kernel
theorem dX6_isFit_52 : decode cX6_isFit 52 = .ok (.getfield 7, 3) := by decide +kernel
theorem dX6_isFit_55 : decode cX6_isFit 55 = .ok (.iload 5, 2) := by decide +kernel
theorem dX6_isFit_57 : decode cX6_isFit 57 = .ok (.iaload, 1) := by decide +kernel
theorem dX6_isFit_58 : decode cX6_isFit 58 = .ok (.iconst 1, 1) := by decide +kernel
theorem dX6_isFit_59 : decode cX6_isFit 59 = .ok (.if_icmp .ne 23, 3) := by decide +kernel
theorem dX6_isFit_62 : decode cX6_isFit 62 = .ok (.lload 6, 2) := by decide +kernel
theorem dX6_isFit_64 : decode cX6_isFit 64 = .ok (.aload_n 0, 1) := by decide +kernel
theorem dX6_isFit_65 : decode cX6_isFit 65 = .ok (.getfield 7, 3) := by decide +kernel
theorem dX6_isFit_68 : decode cX6_isFit 68 = .ok (.iload 5, 2) := by decide +kernel
theorem dX6_isFit_70 : decode cX6_isFit 70 = .ok (.iconst 2, 1) := by decide +kernel
theorem dX6_isFit_71 : decode cX6_isFit 71 = .ok (.iadd, 1) := by decide +kernel
theorem dX6_isFit_72 : decode cX6_isFit 72 = .ok (.iaload, 1) := by decide +kernel
theorem dX6_isFit_73 : decode cX6_isFit 73 = .ok (.invokestatic 113, 3) := by decide +kernel
theorem dX6_isFit_76 : decode cX6_isFit 76 = .ok (.ifCond .eq 34, 3) := by decide +kernel
theorem dX6_isFit_79 : decode cX6_isFit 79 = .ok (.goto 27, 3) := by decide +kernel
theorem dX6_isFit_82 : decode cX6_isFit 82 = .ok (.lload 6, 2) := by decide +kernel
theorem dX6_isFit_84 : decode cX6_isFit 84 = .ok (.lconst 0, 1) := by decide +kernel
theorem dX6_isFit_85 : decode cX6_isFit 85 = .ok (.lcmp, 1) := by decide +kernel
theorem dX6_isFit_86 : decode cX6_isFit 86 = .ok (.ifCond .eq 20, 3) := by decide +kernel
theorem dX6_isFit_89 : decode cX6_isFit 89 = .ok (.lload 6, 2) := by decide +kernel
theorem dX6_isFit_91 : decode cX6_isFit 91 = .ok (.invokestatic 134, 3) := by decide +kernel
theorem dX6_isFit_94 : decode cX6_isFit 94 = .ok (.aload_n 0, 1) := by decide +kernel
theorem dX6_isFit_95 : decode cX6_isFit 95 = .ok (.getfield 7, 3) := by decide +kernel
theorem dX6_isFit_98 : decode cX6_isFit 98 = .ok (.iload 5, 2) := by decide +kernel
theorem dX6_isFit_100 : decode cX6_isFit 100 = .ok (.iconst 2, 1) := by decide +kernel
theorem dX6_isFit_101 : decode cX6_isFit 101 = .ok (.iadd, 1) := by decide +kernel
theorem dX6_isFit_102 : decode cX6_isFit 102 = .ok (.iaload, 1) := by decide +kernel
theorem dX6_isFit_103 : decode cX6_isFit 103 = .ok (.if_icmp .le 7, 3) := by decide +kernel
theorem dX6_isFit_106 : decode cX6_isFit 106 = .ok (.iconst 1, 1) := by decide +kernel
theorem dX6_isFit_107 : decode cX6_isFit 107 = .ok (.goto 4, 3) := by decide +kernel
theorem dX6_isFit_110 : decode cX6_isFit 110 = .ok (.iconst 0, 1) := by decide +kernel
theorem dX6_isFit_111 : decode cX6_isFit 111 = .ok (.istore_n 3, 1) := by decide +kernel
theorem dX6_isFit_112 : decode cX6_isFit 112 = .ok (.iinc 4 1, 3) := by decide +kernel
theorem dX6_isFit_115 : decode cX6_isFit 115 = .ok (.goto (-104), 3) := by decide +kernel
theorem dX6_isFit_118 : decode cX6_isFit 118 = .ok (.iload_n 3, 1) := by decide +kernel
theorem dX6_isFit_119 : decode cX6_isFit 119 = .ok (.ireturn, 1) := by decide +kernel
set_option maxRecDepth 20000 in
theorem ggX6_fits_X6_isStart : GoodIn wsX6_fits wsX6_isStart := goodIn_r _ [5, 6, 7, 8, 4, 9, 10, 11, 12, 13, 58, 59, 60, 61, 62, 63, 64, 65, 66, 67, 68, 69, 70, 71, 72] (by decide +kernel) (by decide +kernel)
set_option maxRecDepth 20000 in
theorem gX6_fits_X6_isStart : GoodIn wsX6_fits (wsV RX6 127 RX6 yX6_isStart wsX6_isStart) := goodIn_app (goodIn_of _ (by decide +kernel)) ggX6_fits_X6_isStart
set_option maxRecDepth 20000 in
theorem ggX6_fits_X6_refuses : GoodIn wsX6_fits wsX6_refuses := goodIn_r _ [17, 18, 58, 59, 60, 61, 62, 63, 64, 65, 66, 67, 68, 69, 70, 71, 72] (by decide +kernel) (by decide +kernel)
set_option maxRecDepth 20000 in
theorem gX6_fits_X6_refuses : GoodIn wsX6_fits (wsV RX6 46 RX6 yX6_refuses wsX6_refuses) := goodIn_app (goodIn_of _ (by decide +kernel)) ggX6_fits_X6_refuses
set_option maxRecDepth 20000 in
theorem ggX6_fits_X6_isFit : GoodIn wsX6_fits wsX6_isFit := goodIn_r _ [22, 10, 23, 24, 25, 26, 4, 27, 28, 29, 30, 31, 32, 33, 34, 35, 36, 37, 38, 39, 40, 41, 42, 43, 44, 45, 46, 47, 48, 49, 50, 51, 52, 53, 54, 55, 56, 57, 58, 59, 60, 61, 62, 63, 64, 65, 66, 67, 68, 69, 70, 71, 72] (by decide +kernel) (by decide +kernel)
set_option maxRecDepth 20000 in
theorem gX6_fits_X6_isFit : GoodIn wsX6_fits (wsV RX6 138 RX6 yX6_isFit wsX6_isFit) := goodIn_app (goodIn_of _ (by decide +kernel)) ggX6_fits_X6_isFit
theorem dX6_fits_0 : decode cX6_fits 0 = .ok (.aload_n 0, 1) := by decide +kernel
theorem dX6_fits_1 : decode cX6_fits 1 = .ok (.iload_n 1, 1) := by decide +kernel
theorem dX6_fits_2 : decode cX6_fits 2 = .ok (.iload_n 2, 1) := by decide +kernel
theorem dX6_fits_3 : decode cX6_fits 3 = .ok (.invokevirtual 127, 3) := by decide +kernel
theorem dX6_fits_6 : decode cX6_fits 6 = .ok (.ifCond .ne 10, 3) := by decide +kernel
theorem dX6_fits_9 : decode cX6_fits 9 = .ok (.aload_n 0, 1) := by decide +kernel
theorem dX6_fits_10 : decode cX6_fits 10 = .ok (.bipush (-2), 2) := by decide +kernel
theorem dX6_fits_12 : decode cX6_fits 12 = .ok (.invokevirtual 46, 3) := by decide +kernel
theorem dX6_fits_15 : decode cX6_fits 15 = .ok (.ireturn, 1) := by decide +kernel
theorem dX6_fits_16 : decode cX6_fits 16 = .ok (.aload_n 0, 1) := by decide +kernel
theorem dX6_fits_17 : decode cX6_fits 17 = .ok (.iload_n 1, 1) := by decide +kernel
theorem dX6_fits_18 : decode cX6_fits 18 = .ok (.iload_n 2, 1) := by decide +kernel
theorem dX6_fits_19 : decode cX6_fits 19 = .ok (.invokevirtual 138, 3) := by decide +kernel
theorem dX6_fits_22 : decode cX6_fits 22 = .ok (.ifCond .eq 7, 3) := by decide +kernel
theorem dX6_fits_25 : decode cX6_fits 25 = .ok (.iconst 1, 1) := by decide +kernel
theorem dX6_fits_26 : decode cX6_fits 26 = .ok (.goto 4, 3) := by decide +kernel
theorem dX6_fits_29 : decode cX6_fits 29 = .ok (.iconst 0, 1) := by decide +kernel
theorem dX6_fits_30 : decode cX6_fits 30 = .ok (.ireturn, 1) := by decide +kernel
set_option maxRecDepth 20000 in
theorem ggX6_whenOf_X6_isFit : GoodIn wsX6_whenOf wsX6_isFit := goodIn_r _ [5, 6, 7, 8, 9, 10, 4, 11, 12, 13, 14, 15, 16, 17, 18, 19, 20, 21, 22, 23, 24, 25, 26, 27, 28, 29, 30, 31, 32, 33, 34, 35, 36, 37, 38, 39, 40, 41, 42, 43, 44, 45, 46, 47, 48, 49, 50, 51, 52, 53, 54, 55, 56] (by decide +kernel) (by decide +kernel)
set_option maxRecDepth 20000 in
theorem gX6_whenOf_X6_isFit : GoodIn wsX6_whenOf (wsV RX6 138 RX6 yX6_isFit wsX6_isFit) := goodIn_app (goodIn_of _ (by decide +kernel)) ggX6_whenOf_X6_isFit
theorem dX6_whenOf_0 : decode cX6_whenOf 0 = .ok (.iconst 0, 1) := by decide +kernel
theorem dX6_whenOf_1 : decode cX6_whenOf 1 = .ok (.istore_n 2, 1) := by decide +kernel
theorem dX6_whenOf_2 : decode cX6_whenOf 2 = .ok (.iconst 0, 1) := by decide +kernel
theorem dX6_whenOf_3 : decode cX6_whenOf 3 = .ok (.istore_n 3, 1) := by decide +kernel
theorem dX6_whenOf_4 : decode cX6_whenOf 4 = .ok (.iload_n 3, 1) := by decide +kernel
theorem dX6_whenOf_5 : decode cX6_whenOf 5 = .ok (.bipush 30, 2) := by decide +kernel
theorem dX6_whenOf_7 : decode cX6_whenOf 7 = .ok (.if_icmp .gt 28, 3) := by decide +kernel
theorem dX6_whenOf_10 : decode cX6_whenOf 10 = .ok (.iload_n 2, 1) := by decide +kernel
theorem dX6_whenOf_11 : decode cX6_whenOf 11 = .ok (.aload_n 0, 1) := by decide +kernel
theorem dX6_whenOf_12 : decode cX6_whenOf 12 = .ok (.iload_n 1, 1) := by decide +kernel
theorem dX6_whenOf_13 : decode cX6_whenOf 13 = .ok (.iload_n 3, 1) := by decide +kernel
theorem dX6_whenOf_14 : decode cX6_whenOf 14 = .ok (.invokevirtual 138, 3) := by decide +kernel
theorem dX6_whenOf_17 : decode cX6_whenOf 17 = .ok (.ifCond .eq 9, 3) := by decide +kernel
theorem dX6_whenOf_20 : decode cX6_whenOf 20 = .ok (.iconst 1, 1) := by decide +kernel
theorem dX6_whenOf_21 : decode cX6_whenOf 21 = .ok (.iload_n 3, 1) := by decide +kernel
theorem dX6_whenOf_22 : decode cX6_whenOf 22 = .ok (.ishl, 1) := by decide +kernel
theorem dX6_whenOf_23 : decode cX6_whenOf 23 = .ok (.goto 4, 3) := by decide +kernel
theorem dX6_whenOf_26 : decode cX6_whenOf 26 = .ok (.iconst 0, 1) := by decide +kernel
theorem dX6_whenOf_27 : decode cX6_whenOf 27 = .ok (.ior, 1) := by decide +kernel
theorem dX6_whenOf_28 : decode cX6_whenOf 28 = .ok (.istore_n 2, 1) := by decide +kernel
theorem dX6_whenOf_29 : decode cX6_whenOf 29 = .ok (.iinc 3 1, 3) := by decide +kernel
theorem dX6_whenOf_32 : decode cX6_whenOf 32 = .ok (.goto (-28), 3) := by decide +kernel
theorem dX6_whenOf_35 : decode cX6_whenOf 35 = .ok (.iload_n 2, 1) := by decide +kernel
theorem dX6_whenOf_36 : decode cX6_whenOf 36 = .ok (.ireturn, 1) := by decide +kernel
set_option maxRecDepth 20000 in
theorem ggX6_when_X6_isShaft : GoodIn wsX6_when wsX6_isShaft := goodIn_r _ [5, 6, 7, 8, 4, 9, 58, 59, 60, 61, 62, 63, 64, 65, 66, 67, 68, 69, 70, 71, 72] (by decide +kernel) (by decide +kernel)
set_option maxRecDepth 20000 in
theorem gX6_when_X6_isShaft : GoodIn wsX6_when (wsV RX6 65 RX6 yX6_isShaft wsX6_isShaft) := goodIn_app (goodIn_of _ (by decide +kernel)) ggX6_when_X6_isShaft
set_option maxRecDepth 20000 in
theorem ggX6_when_X6_whenOf : GoodIn wsX6_when wsX6_whenOf := goodIn_r _ [13, 14, 15, 16, 4, 17, 6, 18, 19, 20, 21, 22, 23, 24, 25, 26, 27, 28, 29, 30, 31, 32, 33, 34, 35, 36, 37, 38, 39, 40, 41, 42, 43, 44, 45, 46, 47, 48, 49, 50, 51, 52, 58, 59, 60, 61, 62, 63, 64, 65, 66, 67, 68, 69, 70, 71, 72] (by decide +kernel) (by decide +kernel)
set_option maxRecDepth 20000 in
theorem gX6_when_X6_whenOf : GoodIn wsX6_when (wsV RX6 141 RX6 yX6_whenOf wsX6_whenOf) := goodIn_app (goodIn_of _ (by decide +kernel)) ggX6_when_X6_whenOf
set_option maxRecDepth 20000 in
theorem ggX6_when_X6_refuses : GoodIn wsX6_when wsX6_refuses := goodIn_r _ [56, 57, 58, 59, 60, 61, 62, 63, 64, 65, 66, 67, 68, 69, 70, 71, 72] (by decide +kernel) (by decide +kernel)
set_option maxRecDepth 20000 in
theorem gX6_when_X6_refuses : GoodIn wsX6_when (wsV RX6 46 RX6 yX6_refuses wsX6_refuses) := goodIn_app (goodIn_of _ (by decide +kernel)) ggX6_when_X6_refuses
theorem dX6_when_0 : decode cX6_when 0 = .ok (.aload_n 0, 1) := by decide +kernel
theorem dX6_when_1 : decode cX6_when 1 = .ok (.iload_n 1, 1) := by decide +kernel
theorem dX6_when_2 : decode cX6_when 2 = .ok (.invokevirtual 65, 3) := by decide +kernel
theorem dX6_when_5 : decode cX6_when 5 = .ok (.ifCond .eq 11, 3) := by decide +kernel
theorem dX6_when_8 : decode cX6_when 8 = .ok (.aload_n 0, 1) := by decide +kernel
theorem dX6_when_9 : decode cX6_when 9 = .ok (.iload_n 1, 1) := by decide +kernel
theorem dX6_when_10 : decode cX6_when 10 = .ok (.invokevirtual 141, 3) := by decide +kernel
theorem dX6_when_13 : decode cX6_when 13 = .ok (.goto 9, 3) := by decide +kernel
theorem dX6_when_16 : decode cX6_when 16 = .ok (.aload_n 0, 1) := by decide +kernel
theorem dX6_when_17 : decode cX6_when 17 = .ok (.bipush (-2), 2) := by decide +kernel
theorem dX6_when_19 : decode cX6_when 19 = .ok (.invokevirtual 46, 3) := by decide +kernel
theorem dX6_when_22 : decode cX6_when 22 = .ok (.ireturn, 1) := by decide +kernel
set_option maxRecDepth 20000 in
theorem ggX6_suspectsNow_X6_whenOf : GoodIn wsX6_suspectsNow wsX6_whenOf := goodIn_r _ [6, 7, 8, 9, 5, 10, 1, 11, 12, 13, 14, 15, 16, 17, 18, 19, 20, 21, 22, 23, 24, 25, 26, 27, 28, 29, 30, 31, 32, 33, 34, 35, 36, 37, 38, 39, 40, 41, 42, 43, 44, 45, 46, 47, 48, 49, 50, 51, 52, 53, 54, 55, 56, 57, 58, 59, 60] (by decide +kernel) (by decide +kernel)
set_option maxRecDepth 20000 in
theorem gX6_suspectsNow_X6_whenOf : GoodIn wsX6_suspectsNow (wsV RX6 141 RX6 yX6_whenOf wsX6_whenOf) := goodIn_app (goodIn_of _ (by decide +kernel)) ggX6_suspectsNow_X6_whenOf
theorem dX6_suspectsNow_0 : decode cX6_suspectsNow 0 = .ok (.iconst 0, 1) := by decide +kernel
theorem dX6_suspectsNow_1 : decode cX6_suspectsNow 1 = .ok (.istore_n 1, 1) := by decide +kernel
theorem dX6_suspectsNow_2 : decode cX6_suspectsNow 2 = .ok (.iconst 0, 1) := by decide +kernel
theorem dX6_suspectsNow_3 : decode cX6_suspectsNow 3 = .ok (.istore_n 2, 1) := by decide +kernel
theorem dX6_suspectsNow_4 : decode cX6_suspectsNow 4 = .ok (.iload_n 2, 1) := by decide +kernel
theorem dX6_suspectsNow_5 : decode cX6_suspectsNow 5 = .ok (.aload_n 0, 1) := by decide +kernel
theorem dX6_suspectsNow_6 : decode cX6_suspectsNow 6 = .ok (.getfield 7, 3) := by decide +kernel
theorem dX6_suspectsNow_9 : decode cX6_suspectsNow 9 = .ok (.iconst 0, 1) := by decide +kernel
theorem dX6_suspectsNow_10 : decode cX6_suspectsNow 10 = .ok (.iaload, 1) := by decide +kernel
theorem dX6_suspectsNow_11 : decode cX6_suspectsNow 11 = .ok (.if_icmp .ge 27, 3) := by decide +kernel
theorem dX6_suspectsNow_14 : decode cX6_suspectsNow 14 = .ok (.iload_n 1, 1) := by decide +kernel
theorem dX6_suspectsNow_15 : decode cX6_suspectsNow 15 = .ok (.aload_n 0, 1) := by decide +kernel
theorem dX6_suspectsNow_16 : decode cX6_suspectsNow 16 = .ok (.iload_n 2, 1) := by decide +kernel
theorem dX6_suspectsNow_17 : decode cX6_suspectsNow 17 = .ok (.invokevirtual 141, 3) := by decide +kernel
theorem dX6_suspectsNow_20 : decode cX6_suspectsNow 20 = .ok (.ifCond .ne 7, 3) := by decide +kernel
theorem dX6_suspectsNow_23 : decode cX6_suspectsNow 23 = .ok (.iconst 0, 1) := by decide +kernel
theorem dX6_suspectsNow_24 : decode cX6_suspectsNow 24 = .ok (.goto 6, 3) := by decide +kernel
theorem dX6_suspectsNow_27 : decode cX6_suspectsNow 27 = .ok (.iconst 1, 1) := by decide +kernel
theorem dX6_suspectsNow_28 : decode cX6_suspectsNow 28 = .ok (.iload_n 2, 1) := by decide +kernel
theorem dX6_suspectsNow_29 : decode cX6_suspectsNow 29 = .ok (.ishl, 1) := by decide +kernel
theorem dX6_suspectsNow_30 : decode cX6_suspectsNow 30 = .ok (.ior, 1) := by decide +kernel
theorem dX6_suspectsNow_31 : decode cX6_suspectsNow 31 = .ok (.istore_n 1, 1) := by decide +kernel
theorem dX6_suspectsNow_32 : decode cX6_suspectsNow 32 = .ok (.iinc 2 1, 3) := by decide +kernel
theorem dX6_suspectsNow_35 : decode cX6_suspectsNow 35 = .ok (.goto (-31), 3) := by decide +kernel
theorem dX6_suspectsNow_38 : decode cX6_suspectsNow 38 = .ok (.iload_n 1, 1) := by decide +kernel
theorem dX6_suspectsNow_39 : decode cX6_suspectsNow 39 = .ok (.ireturn, 1) := by decide +kernel
set_option maxRecDepth 20000 in
theorem ggX6_suspects_X6_suspectsNow : GoodIn wsX6_suspects wsX6_suspectsNow := goodIn_r _ [5, 6, 7, 8, 9, 4, 10, 11, 12, 13, 14, 15, 16, 17, 18, 19, 20, 21, 22, 23, 24, 25, 26, 27, 28, 29, 30, 31, 32, 33, 34, 35, 36, 37, 38, 39, 40, 41, 42, 43, 44, 45, 46, 47, 48, 49, 50, 51, 52, 53, 54, 55, 56, 57, 58, 59, 60, 61, 62, 63, 64] (by decide +kernel) (by decide +kernel)
set_option maxRecDepth 20000 in
theorem gX6_suspects_X6_suspectsNow : GoodIn wsX6_suspects (wsV RX6 144 RX6 yX6_suspectsNow wsX6_suspectsNow) := goodIn_app (goodIn_of _ (by decide +kernel)) ggX6_suspects_X6_suspectsNow
theorem dX6_suspects_0 : decode cX6_suspects 0 = .ok (.aload_n 0, 1) := by decide +kernel
theorem dX6_suspects_1 : decode cX6_suspects 1 = .ok (.invokevirtual 144, 3) := by decide +kernel
theorem dX6_suspects_4 : decode cX6_suspects 4 = .ok (.ireturn, 1) := by decide +kernel
set_option maxRecDepth 20000 in
theorem ggX6_nextOf_X6_suspectsNow : GoodIn wsX6_nextOf wsX6_suspectsNow := goodIn_r _ [6, 1, 7, 8, 9, 5, 10, 11, 12, 13, 14, 15, 16, 17, 18, 19, 20, 21, 22, 23, 24, 25, 26, 27, 28, 29, 30, 31, 32, 33, 34, 35, 36, 37, 38, 39, 40, 41, 42, 43, 44, 45, 46, 47, 48, 49, 60, 61, 62, 63, 64, 65, 66, 67, 68, 69, 70, 71, 72, 73, 74] (by decide +kernel) (by decide +kernel)
set_option maxRecDepth 20000 in
theorem gX6_nextOf_X6_suspectsNow : GoodIn wsX6_nextOf (wsV RX6 144 RX6 yX6_suspectsNow wsX6_suspectsNow) := goodIn_app (goodIn_of _ (by decide +kernel)) ggX6_nextOf_X6_suspectsNow
set_option maxRecDepth 20000 in
theorem ggX6_nextOf_X6_has : GoodIn wsX6_nextOf wsX6_has := goodIn_r _ [52] (by decide +kernel) (by decide +kernel)
set_option maxRecDepth 20000 in
theorem gX6_nextOf_X6_has : GoodIn wsX6_nextOf (va_wsS RX6 42 yX6_has wsX6_has) := goodIn_app (goodIn_of _ (by decide +kernel)) ggX6_nextOf_X6_has
set_option maxRecDepth 20000 in
theorem ggX6_nextOf_X6_below : GoodIn wsX6_nextOf wsX6_below := goodIn_r _ [56, 1, 24, 25, 26, 5, 27, 50, 51, 52, 60, 61, 62, 63, 64, 65, 66, 67, 68, 69, 70, 71, 72, 73, 74] (by decide +kernel) (by decide +kernel)
set_option maxRecDepth 20000 in
theorem gX6_nextOf_X6_below : GoodIn wsX6_nextOf (wsV RX6 68 RX6 yX6_below wsX6_below) := goodIn_app (goodIn_of _ (by decide +kernel)) ggX6_nextOf_X6_below
set_option maxRecDepth 20000 in
theorem ggX6_nextOf_X6_ones : GoodIn wsX6_nextOf wsX6_ones := goodIn_r _ [59, 50, 51, 5, 52] (by decide +kernel) (by decide +kernel)
set_option maxRecDepth 20000 in
theorem gX6_nextOf_X6_ones : GoodIn wsX6_nextOf (va_wsS RX6 147 yX6_ones wsX6_ones) := goodIn_app (goodIn_of _ (by decide +kernel)) ggX6_nextOf_X6_ones
theorem dX6_nextOf_0 : decode cX6_nextOf 0 = .ok (.aload_n 0, 1) := by decide +kernel
theorem dX6_nextOf_1 : decode cX6_nextOf 1 = .ok (.invokevirtual 144, 3) := by decide +kernel
theorem dX6_nextOf_4 : decode cX6_nextOf 4 = .ok (.istore_n 2, 1) := by decide +kernel
theorem dX6_nextOf_5 : decode cX6_nextOf 5 = .ok (.iconst (-1), 1) := by decide +kernel
theorem dX6_nextOf_6 : decode cX6_nextOf 6 = .ok (.istore_n 3, 1) := by decide +kernel
theorem dX6_nextOf_7 : decode cX6_nextOf 7 = .ok (.bipush 11, 2) := by decide +kernel
theorem dX6_nextOf_9 : decode cX6_nextOf 9 = .ok (.istore 4, 2) := by decide +kernel
theorem dX6_nextOf_11 : decode cX6_nextOf 11 = .ok (.iconst 0, 1) := by decide +kernel
theorem dX6_nextOf_12 : decode cX6_nextOf 12 = .ok (.istore 5, 2) := by decide +kernel
theorem dX6_nextOf_14 : decode cX6_nextOf 14 = .ok (.iload 5, 2) := by decide +kernel
theorem dX6_nextOf_16 : decode cX6_nextOf 16 = .ok (.aload_n 0, 1) := by decide +kernel
theorem dX6_nextOf_17 : decode cX6_nextOf 17 = .ok (.getfield 7, 3) := by decide +kernel
theorem dX6_nextOf_20 : decode cX6_nextOf 20 = .ok (.iconst 0, 1) := by decide +kernel
theorem dX6_nextOf_21 : decode cX6_nextOf 21 = .ok (.iaload, 1) := by decide +kernel
theorem dX6_nextOf_22 : decode cX6_nextOf 22 = .ok (.if_icmp .ge 120, 3) := by decide +kernel
theorem dX6_nextOf_25 : decode cX6_nextOf 25 = .ok (.iconst 0, 1) := by decide +kernel
theorem dX6_nextOf_26 : decode cX6_nextOf 26 = .ok (.istore 6, 2) := by decide +kernel
theorem dX6_nextOf_28 : decode cX6_nextOf 28 = .ok (.iconst 0, 1) := by decide +kernel
theorem dX6_nextOf_29 : decode cX6_nextOf 29 = .ok (.istore 7, 2) := by decide +kernel
theorem dX6_nextOf_31 : decode cX6_nextOf 31 = .ok (.iload 7, 2) := by decide +kernel
theorem dX6_nextOf_33 : decode cX6_nextOf 33 = .ok (.aload_n 0, 1) := by decide +kernel
theorem dX6_nextOf_34 : decode cX6_nextOf 34 = .ok (.getfield 7, 3) := by decide +kernel
theorem dX6_nextOf_37 : decode cX6_nextOf 37 = .ok (.iconst 0, 1) := by decide +kernel
theorem dX6_nextOf_38 : decode cX6_nextOf 38 = .ok (.iaload, 1) := by decide +kernel
theorem dX6_nextOf_39 : decode cX6_nextOf 39 = .ok (.if_icmp .ge 42, 3) := by decide +kernel
theorem dX6_nextOf_42 : decode cX6_nextOf 42 = .ok (.iload 6, 2) := by decide +kernel
theorem dX6_nextOf_44 : decode cX6_nextOf 44 = .ok (.iload_n 2, 1) := by decide +kernel
theorem dX6_nextOf_45 : decode cX6_nextOf 45 = .ok (.iload 7, 2) := by decide +kernel
theorem dX6_nextOf_47 : decode cX6_nextOf 47 = .ok (.invokestatic 42, 3) := by decide +kernel
theorem dX6_nextOf_50 : decode cX6_nextOf 50 = .ok (.ifCond .eq 21, 3) := by decide +kernel
theorem dX6_nextOf_53 : decode cX6_nextOf 53 = .ok (.aload_n 0, 1) := by decide +kernel
theorem dX6_nextOf_54 : decode cX6_nextOf 54 = .ok (.iload 7, 2) := by decide +kernel
theorem dX6_nextOf_56 : decode cX6_nextOf 56 = .ok (.invokevirtual 68, 3) := by decide +kernel
theorem dX6_nextOf_59 : decode cX6_nextOf 59 = .ok (.iload 5, 2) := by decide +kernel
theorem dX6_nextOf_61 : decode cX6_nextOf 61 = .ok (.invokestatic 42, 3) := by decide +kernel
theorem dX6_nextOf_64 : decode cX6_nextOf 64 = .ok (.ifCond .eq 7, 3) := by decide +kernel
theorem dX6_nextOf_67 : decode cX6_nextOf 67 = .ok (.iconst 1, 1) := by decide +kernel
theorem dX6_nextOf_68 : decode cX6_nextOf 68 = .ok (.goto 4, 3) := by decide +kernel
theorem dX6_nextOf_71 : decode cX6_nextOf 71 = .ok (.iconst 0, 1) := by decide +kernel
theorem dX6_nextOf_72 : decode cX6_nextOf 72 = .ok (.iadd, 1) := by decide +kernel
theorem dX6_nextOf_73 : decode cX6_nextOf 73 = .ok (.istore 6, 2) := by decide +kernel
theorem dX6_nextOf_75 : decode cX6_nextOf 75 = .ok (.iinc 7 1, 3) := by decide +kernel
theorem dX6_nextOf_78 : decode cX6_nextOf 78 = .ok (.goto (-47), 3) := by decide +kernel
theorem dX6_nextOf_81 : decode cX6_nextOf 81 = .ok (.iload_n 2, 1) := by decide +kernel
theorem dX6_nextOf_82 : decode cX6_nextOf 82 = .ok (.invokestatic 147, 3) := by decide +kernel
theorem dX6_nextOf_85 : decode cX6_nextOf 85 = .ok (.iload 6, 2) := by decide +kernel
theorem dX6_nextOf_87 : decode cX6_nextOf 87 = .ok (.isub, 1) := by decide +kernel
theorem dX6_nextOf_88 : decode cX6_nextOf 88 = .ok (.istore 7, 2) := by decide +kernel
theorem dX6_nextOf_90 : decode cX6_nextOf 90 = .ok (.iload 6, 2) := by decide +kernel
theorem dX6_nextOf_92 : decode cX6_nextOf 92 = .ok (.iload 7, 2) := by decide +kernel
theorem dX6_nextOf_94 : decode cX6_nextOf 94 = .ok (.if_icmp .le 8, 3) := by decide +kernel
theorem dX6_nextOf_97 : decode cX6_nextOf 97 = .ok (.iload 6, 2) := by decide +kernel
theorem dX6_nextOf_99 : decode cX6_nextOf 99 = .ok (.goto 5, 3) := by decide +kernel
theorem dX6_nextOf_102 : decode cX6_nextOf 102 = .ok (.iload 7, 2) := by decide +kernel
theorem dX6_nextOf_104 : decode cX6_nextOf 104 = .ok (.istore 8, 2) := by decide +kernel
theorem dX6_nextOf_106 : decode cX6_nextOf 106 = .ok (.iload 8, 2) := by decide +kernel
theorem dX6_nextOf_108 : decode cX6_nextOf 108 = .ok (.iload 4, 2) := by decide +kernel
theorem dX6_nextOf_110 : decode cX6_nextOf 110 = .ok (.if_icmp .ge 8, 3) := by decide +kernel
theorem dX6_nextOf_113 : decode cX6_nextOf 113 = .ok (.iload 5, 2) := by decide +kernel
theorem dX6_nextOf_115 : decode cX6_nextOf 115 = .ok (.goto 4, 3) := by decide +kernel
theorem dX6_nextOf_118 : decode cX6_nextOf 118 = .ok (.iload_n 3, 1) := by decide +kernel
theorem dX6_nextOf_119 : decode cX6_nextOf 119 = .ok (.istore_n 3, 1) := by decide +kernel
theorem dX6_nextOf_120 : decode cX6_nextOf 120 = .ok (.iload 8, 2) := by decide +kernel
theorem dX6_nextOf_122 : decode cX6_nextOf 122 = .ok (.iload 4, 2) := by decide +kernel
theorem dX6_nextOf_124 : decode cX6_nextOf 124 = .ok (.if_icmp .ge 8, 3) := by decide +kernel
theorem dX6_nextOf_127 : decode cX6_nextOf 127 = .ok (.iload 8, 2) := by decide +kernel
theorem dX6_nextOf_129 : decode cX6_nextOf 129 = .ok (.goto 5, 3) := by decide +kernel
theorem dX6_nextOf_132 : decode cX6_nextOf 132 = .ok (.iload 4, 2) := by decide +kernel
theorem dX6_nextOf_134 : decode cX6_nextOf 134 = .ok (.istore 4, 2) := by decide +kernel
theorem dX6_nextOf_136 : decode cX6_nextOf 136 = .ok (.iinc 5 1, 3) := by decide +kernel
theorem dX6_nextOf_139 : decode cX6_nextOf 139 = .ok (.goto (-125), 3) := by decide +kernel
theorem dX6_nextOf_142 : decode cX6_nextOf 142 = .ok (.iload_n 1, 1) := by decide +kernel
theorem dX6_nextOf_143 : decode cX6_nextOf 143 = .ok (.ifCond .eq 8, 3) := by decide +kernel
theorem dX6_nextOf_146 : decode cX6_nextOf 146 = .ok (.iload_n 3, 1) := by decide +kernel
theorem dX6_nextOf_147 : decode cX6_nextOf 147 = .ok (.iconst (-1), 1) := by decide +kernel
theorem dX6_nextOf_148 : decode cX6_nextOf 148 = .ok (.if_icmp .ne 7, 3) := by decide +kernel
theorem dX6_nextOf_151 : decode cX6_nextOf 151 = .ok (.iload_n 3, 1) := by decide +kernel
theorem dX6_nextOf_152 : decode cX6_nextOf 152 = .ok (.goto 5, 3) := by decide +kernel
theorem dX6_nextOf_155 : decode cX6_nextOf 155 = .ok (.iload 4, 2) := by decide +kernel
theorem dX6_nextOf_157 : decode cX6_nextOf 157 = .ok (.ireturn, 1) := by decide +kernel
set_option maxRecDepth 20000 in
theorem ggX6_next_X6_in : GoodIn wsX6_next wsX6_in := goodIn_r _ [4] (by decide +kernel) (by decide +kernel)
set_option maxRecDepth 20000 in
theorem gX6_next_X6_in : GoodIn wsX6_next (va_wsS RX6 53 yX6_in wsX6_in) := goodIn_app (goodIn_of _ (by decide +kernel)) ggX6_next_X6_in
set_option maxRecDepth 20000 in
theorem ggX6_next_X6_nextOf : GoodIn wsX6_next wsX6_nextOf := goodIn_r _ [8, 9, 10, 11, 12, 3, 13, 14, 15, 16, 17, 18, 19, 20, 21, 22, 23, 24, 25, 26, 27, 28, 29, 30, 31, 32, 33, 34, 35, 36, 37, 38, 39, 40, 41, 42, 43, 44, 45, 46, 47, 48, 49, 50, 51, 52, 53, 54, 55, 56, 57, 58, 59, 60, 61, 62, 63, 64, 65, 66, 72, 73, 74, 75, 76, 77, 78, 79, 80, 81, 82, 83, 84, 85, 86] (by decide +kernel) (by decide +kernel)
set_option maxRecDepth 20000 in
theorem gX6_next_X6_nextOf : GoodIn wsX6_next (wsV RX6 150 RX6 yX6_nextOf wsX6_nextOf) := goodIn_app (goodIn_of _ (by decide +kernel)) ggX6_next_X6_nextOf
set_option maxRecDepth 20000 in
theorem ggX6_next_X6_refuses : GoodIn wsX6_next wsX6_refuses := goodIn_r _ [70, 71, 72, 73, 74, 75, 76, 77, 78, 79, 80, 81, 82, 83, 84, 85, 86] (by decide +kernel) (by decide +kernel)
set_option maxRecDepth 20000 in
theorem gX6_next_X6_refuses : GoodIn wsX6_next (wsV RX6 46 RX6 yX6_refuses wsX6_refuses) := goodIn_app (goodIn_of _ (by decide +kernel)) ggX6_next_X6_refuses
theorem dX6_next_0 : decode cX6_next 0 = .ok (.iload_n 1, 1) := by decide +kernel
theorem dX6_next_1 : decode cX6_next 1 = .ok (.iconst 0, 1) := by decide +kernel
theorem dX6_next_2 : decode cX6_next 2 = .ok (.iconst 1, 1) := by decide +kernel
theorem dX6_next_3 : decode cX6_next 3 = .ok (.invokestatic 53, 3) := by decide +kernel
theorem dX6_next_6 : decode cX6_next 6 = .ok (.ifCond .eq 11, 3) := by decide +kernel
theorem dX6_next_9 : decode cX6_next 9 = .ok (.aload_n 0, 1) := by decide +kernel
theorem dX6_next_10 : decode cX6_next 10 = .ok (.iload_n 1, 1) := by decide +kernel
theorem dX6_next_11 : decode cX6_next 11 = .ok (.invokevirtual 150, 3) := by decide +kernel
theorem dX6_next_14 : decode cX6_next 14 = .ok (.goto 9, 3) := by decide +kernel
theorem dX6_next_17 : decode cX6_next 17 = .ok (.aload_n 0, 1) := by decide +kernel
theorem dX6_next_18 : decode cX6_next 18 = .ok (.bipush (-2), 2) := by decide +kernel
theorem dX6_next_20 : decode cX6_next 20 = .ok (.invokevirtual 46, 3) := by decide +kernel
theorem dX6_next_23 : decode cX6_next 23 = .ok (.ireturn, 1) := by decide +kernel
set_option maxRecDepth 20000 in
theorem ggX6_findBelows_X6_below : GoodIn wsX6_findBelows wsX6_below := goodIn_r _ [7, 1, 8, 9, 10, 6, 11, 12, 13, 14, 15, 16, 17, 18, 19, 20, 21, 22, 23, 24, 25, 26, 27, 28, 29] (by decide +kernel) (by decide +kernel)
set_option maxRecDepth 20000 in
theorem gX6_findBelows_X6_below : GoodIn wsX6_findBelows (wsV RX6 68 RX6 yX6_below wsX6_below) := goodIn_app (goodIn_of _ (by decide +kernel)) ggX6_findBelows_X6_below
theorem dX6_findBelows_0 : decode cX6_findBelows 0 = .ok (.iconst 0, 1) := by decide +kernel
theorem dX6_findBelows_1 : decode cX6_findBelows 1 = .ok (.istore_n 1, 1) := by decide +kernel
theorem dX6_findBelows_2 : decode cX6_findBelows 2 = .ok (.iload_n 1, 1) := by decide +kernel
theorem dX6_findBelows_3 : decode cX6_findBelows 3 = .ok (.aload_n 0, 1) := by decide +kernel
theorem dX6_findBelows_4 : decode cX6_findBelows 4 = .ok (.getfield 7, 3) := by decide +kernel
theorem dX6_findBelows_7 : decode cX6_findBelows 7 = .ok (.iconst 0, 1) := by decide +kernel
theorem dX6_findBelows_8 : decode cX6_findBelows 8 = .ok (.iaload, 1) := by decide +kernel
theorem dX6_findBelows_9 : decode cX6_findBelows 9 = .ok (.if_icmp .ge 20, 3) := by decide +kernel
theorem dX6_findBelows_12 : decode cX6_findBelows 12 = .ok (.aload_n 0, 1) := by decide +kernel
theorem dX6_findBelows_13 : decode cX6_findBelows 13 = .ok (.getfield 26, 3) := by decide +kernel
theorem dX6_findBelows_16 : decode cX6_findBelows 16 = .ok (.iload_n 1, 1) := by decide +kernel
theorem dX6_findBelows_17 : decode cX6_findBelows 17 = .ok (.aload_n 0, 1) := by decide +kernel
theorem dX6_findBelows_18 : decode cX6_findBelows 18 = .ok (.iload_n 1, 1) := by decide +kernel
theorem dX6_findBelows_19 : decode cX6_findBelows 19 = .ok (.invokevirtual 68, 3) := by decide +kernel
theorem dX6_findBelows_22 : decode cX6_findBelows 22 = .ok (.iastore, 1) := by decide +kernel
theorem dX6_findBelows_23 : decode cX6_findBelows 23 = .ok (.iinc 1 1, 3) := by decide +kernel
theorem dX6_findBelows_26 : decode cX6_findBelows 26 = .ok (.goto (-24), 3) := by decide +kernel
theorem dX6_findBelows_29 : decode cX6_findBelows 29 = .ok (.return_, 1) := by decide +kernel
theorem dX6_alikeBy_0 : decode cX6_alikeBy 0 = .ok (.iconst 0, 1) := by decide +kernel
theorem dX6_alikeBy_1 : decode cX6_alikeBy 1 = .ok (.istore_n 2, 1) := by decide +kernel
theorem dX6_alikeBy_2 : decode cX6_alikeBy 2 = .ok (.iconst 0, 1) := by decide +kernel
theorem dX6_alikeBy_3 : decode cX6_alikeBy 3 = .ok (.istore_n 3, 1) := by decide +kernel
theorem dX6_alikeBy_4 : decode cX6_alikeBy 4 = .ok (.iload_n 3, 1) := by decide +kernel
theorem dX6_alikeBy_5 : decode cX6_alikeBy 5 = .ok (.aload_n 0, 1) := by decide +kernel
theorem dX6_alikeBy_6 : decode cX6_alikeBy 6 = .ok (.getfield 7, 3) := by decide +kernel
theorem dX6_alikeBy_9 : decode cX6_alikeBy 9 = .ok (.iconst 0, 1) := by decide +kernel
theorem dX6_alikeBy_10 : decode cX6_alikeBy 10 = .ok (.iaload, 1) := by decide +kernel
theorem dX6_alikeBy_11 : decode cX6_alikeBy 11 = .ok (.if_icmp .ge 59, 3) := by decide +kernel
theorem dX6_alikeBy_14 : decode cX6_alikeBy 14 = .ok (.iload_n 3, 1) := by decide +kernel
theorem dX6_alikeBy_15 : decode cX6_alikeBy 15 = .ok (.iconst 1, 1) := by decide +kernel
theorem dX6_alikeBy_16 : decode cX6_alikeBy 16 = .ok (.iadd, 1) := by decide +kernel
theorem dX6_alikeBy_17 : decode cX6_alikeBy 17 = .ok (.istore 4, 2) := by decide +kernel
theorem dX6_alikeBy_19 : decode cX6_alikeBy 19 = .ok (.iload 4, 2) := by decide +kernel
theorem dX6_alikeBy_21 : decode cX6_alikeBy 21 = .ok (.aload_n 0, 1) := by decide +kernel
theorem dX6_alikeBy_22 : decode cX6_alikeBy 22 = .ok (.getfield 7, 3) := by decide +kernel
theorem dX6_alikeBy_25 : decode cX6_alikeBy 25 = .ok (.iconst 0, 1) := by decide +kernel
theorem dX6_alikeBy_26 : decode cX6_alikeBy 26 = .ok (.iaload, 1) := by decide +kernel
theorem dX6_alikeBy_27 : decode cX6_alikeBy 27 = .ok (.if_icmp .ge 37, 3) := by decide +kernel
theorem dX6_alikeBy_30 : decode cX6_alikeBy 30 = .ok (.iload_n 2, 1) := by decide +kernel
theorem dX6_alikeBy_31 : decode cX6_alikeBy 31 = .ok (.aload_n 0, 1) := by decide +kernel
theorem dX6_alikeBy_32 : decode cX6_alikeBy 32 = .ok (.getfield 26, 3) := by decide +kernel
theorem dX6_alikeBy_35 : decode cX6_alikeBy 35 = .ok (.iload_n 3, 1) := by decide +kernel
theorem dX6_alikeBy_36 : decode cX6_alikeBy 36 = .ok (.iaload, 1) := by decide +kernel
theorem dX6_alikeBy_37 : decode cX6_alikeBy 37 = .ok (.iload_n 1, 1) := by decide +kernel
theorem dX6_alikeBy_38 : decode cX6_alikeBy 38 = .ok (.iand, 1) := by decide +kernel
theorem dX6_alikeBy_39 : decode cX6_alikeBy 39 = .ok (.aload_n 0, 1) := by decide +kernel
theorem dX6_alikeBy_40 : decode cX6_alikeBy 40 = .ok (.getfield 26, 3) := by decide +kernel
theorem dX6_alikeBy_43 : decode cX6_alikeBy 43 = .ok (.iload 4, 2) := by decide +kernel
theorem dX6_alikeBy_45 : decode cX6_alikeBy 45 = .ok (.iaload, 1) := by decide +kernel
theorem dX6_alikeBy_46 : decode cX6_alikeBy 46 = .ok (.iload_n 1, 1) := by decide +kernel
theorem dX6_alikeBy_47 : decode cX6_alikeBy 47 = .ok (.iand, 1) := by decide +kernel
theorem dX6_alikeBy_48 : decode cX6_alikeBy 48 = .ok (.if_icmp .ne 7, 3) := by decide +kernel
theorem dX6_alikeBy_51 : decode cX6_alikeBy 51 = .ok (.iconst 1, 1) := by decide +kernel
theorem dX6_alikeBy_52 : decode cX6_alikeBy 52 = .ok (.goto 4, 3) := by decide +kernel
theorem dX6_alikeBy_55 : decode cX6_alikeBy 55 = .ok (.iconst 0, 1) := by decide +kernel
theorem dX6_alikeBy_56 : decode cX6_alikeBy 56 = .ok (.iadd, 1) := by decide +kernel
theorem dX6_alikeBy_57 : decode cX6_alikeBy 57 = .ok (.istore_n 2, 1) := by decide +kernel
theorem dX6_alikeBy_58 : decode cX6_alikeBy 58 = .ok (.iinc 4 1, 3) := by decide +kernel
theorem dX6_alikeBy_61 : decode cX6_alikeBy 61 = .ok (.goto (-42), 3) := by decide +kernel
theorem dX6_alikeBy_64 : decode cX6_alikeBy 64 = .ok (.iinc 3 1, 3) := by decide +kernel
theorem dX6_alikeBy_67 : decode cX6_alikeBy 67 = .ok (.goto (-63), 3) := by decide +kernel
theorem dX6_alikeBy_70 : decode cX6_alikeBy 70 = .ok (.iload_n 2, 1) := by decide +kernel
theorem dX6_alikeBy_71 : decode cX6_alikeBy 71 = .ok (.ireturn, 1) := by decide +kernel
set_option maxRecDepth 20000 in
theorem ggX6_alike_X6_in : GoodIn wsX6_alike wsX6_in := goodIn_r _ [5] (by decide +kernel) (by decide +kernel)
set_option maxRecDepth 20000 in
theorem gX6_alike_X6_in : GoodIn wsX6_alike (va_wsS RX6 53 yX6_in wsX6_in) := goodIn_app (goodIn_of _ (by decide +kernel)) ggX6_alike_X6_in
set_option maxRecDepth 20000 in
theorem ggX6_alike_X6_refuses : GoodIn wsX6_alike wsX6_refuses := goodIn_r _ [9, 10, 31, 32, 33, 34, 35, 36, 37, 38, 39, 40, 41, 42, 43, 44, 45] (by decide +kernel) (by decide +kernel)
set_option maxRecDepth 20000 in
theorem gX6_alike_X6_refuses : GoodIn wsX6_alike (wsV RX6 46 RX6 yX6_refuses wsX6_refuses) := goodIn_app (goodIn_of _ (by decide +kernel)) ggX6_alike_X6_refuses
set_option maxRecDepth 20000 in
theorem ggX6_alike_X6_findBelows : GoodIn wsX6_alike wsX6_findBelows := goodIn_r _ [14, 1, 15, 16, 17, 18, 4, 19, 20, 21, 22, 23, 24, 25, 26, 31, 32, 33, 34, 35, 36, 37, 38, 39, 40, 41, 42, 43, 44, 45] (by decide +kernel) (by decide +kernel)
set_option maxRecDepth 20000 in
theorem gX6_alike_X6_findBelows : GoodIn wsX6_alike (wsV RX6 153 RX6 yX6_findBelows wsX6_findBelows) := goodIn_app (goodIn_of _ (by decide +kernel)) ggX6_alike_X6_findBelows
set_option maxRecDepth 20000 in
theorem ggX6_alike_X6_alikeBy : GoodIn wsX6_alike wsX6_alikeBy := goodIn_r _ [30, 1, 15, 31, 32, 33, 34, 35, 36, 37, 38, 39, 40, 41, 42, 43, 44, 45] (by decide +kernel) (by decide +kernel)
set_option maxRecDepth 20000 in
theorem gX6_alike_X6_alikeBy : GoodIn wsX6_alike (wsV RX6 156 RX6 yX6_alikeBy wsX6_alikeBy) := goodIn_app (goodIn_of _ (by decide +kernel)) ggX6_alike_X6_alikeBy
theorem dX6_alike_0 : decode cX6_alike 0 = .ok (.iload_n 1, 1) := by decide +kernel
theorem dX6_alike_1 : decode cX6_alike 1 = .ok (.iconst 0, 1) := by decide +kernel
theorem dX6_alike_2 : decode cX6_alike 2 = .ok (.iconst 1, 1) := by decide +kernel
theorem dX6_alike_3 : decode cX6_alike 3 = .ok (.aload_n 0, 1) := by decide +kernel
theorem dX6_alike_4 : decode cX6_alike 4 = .ok (.getfield 7, 3) := by decide +kernel
theorem dX6_alike_7 : decode cX6_alike 7 = .ok (.iconst 0, 1) := by decide +kernel
theorem dX6_alike_8 : decode cX6_alike 8 = .ok (.iaload, 1) := by decide +kernel
theorem dX6_alike_9 : decode cX6_alike 9 = .ok (.ishl, 1) := by decide +kernel
theorem dX6_alike_10 : decode cX6_alike 10 = .ok (.iconst 1, 1) := by decide +kernel
theorem dX6_alike_11 : decode cX6_alike 11 = .ok (.isub, 1) := by decide +kernel
theorem dX6_alike_12 : decode cX6_alike 12 = .ok (.invokestatic 53, 3) := by decide +kernel
theorem dX6_alike_15 : decode cX6_alike 15 = .ok (.ifCond .ne 10, 3) := by decide +kernel
theorem dX6_alike_18 : decode cX6_alike 18 = .ok (.aload_n 0, 1) := by decide +kernel
theorem dX6_alike_19 : decode cX6_alike 19 = .ok (.bipush (-2), 2) := by decide +kernel
theorem dX6_alike_21 : decode cX6_alike 21 = .ok (.invokevirtual 46, 3) := by decide +kernel
theorem dX6_alike_24 : decode cX6_alike 24 = .ok (.ireturn, 1) := by decide +kernel
theorem dX6_alike_25 : decode cX6_alike 25 = .ok (.aload_n 0, 1) := by decide +kernel
theorem dX6_alike_26 : decode cX6_alike 26 = .ok (.invokevirtual 153, 3) := by decide +kernel
theorem dX6_alike_29 : decode cX6_alike 29 = .ok (.aload_n 0, 1) := by decide +kernel
theorem dX6_alike_30 : decode cX6_alike 30 = .ok (.iload_n 1, 1) := by decide +kernel
theorem dX6_alike_31 : decode cX6_alike 31 = .ok (.invokevirtual 156, 3) := by decide +kernel
theorem dX6_alike_34 : decode cX6_alike 34 = .ok (.ireturn, 1) := by decide +kernel
set_option maxRecDepth 20000 in
theorem ggX6_sensorsOf_X6_findBelows : GoodIn wsX6_sensorsOf wsX6_findBelows := goodIn_r _ [6, 1, 7, 8, 9, 10, 5, 11, 12, 13, 14, 15, 16, 17, 18, 26, 27, 28, 29, 30, 31, 32, 33, 34, 35, 36, 37, 38, 39, 40] (by decide +kernel) (by decide +kernel)
set_option maxRecDepth 20000 in
theorem gX6_sensorsOf_X6_findBelows : GoodIn wsX6_sensorsOf (wsV RX6 153 RX6 yX6_findBelows wsX6_findBelows) := goodIn_app (goodIn_of _ (by decide +kernel)) ggX6_sensorsOf_X6_findBelows
set_option maxRecDepth 20000 in
theorem ggX6_sensorsOf_X6_ones : GoodIn wsX6_sensorsOf wsX6_ones := goodIn_r _ [21, 16, 17, 5, 18] (by decide +kernel) (by decide +kernel)
set_option maxRecDepth 20000 in
theorem gX6_sensorsOf_X6_ones : GoodIn wsX6_sensorsOf (va_wsS RX6 147 yX6_ones wsX6_ones) := goodIn_app (goodIn_of _ (by decide +kernel)) ggX6_sensorsOf_X6_ones
set_option maxRecDepth 20000 in
theorem ggX6_sensorsOf_X6_alikeBy : GoodIn wsX6_sensorsOf wsX6_alikeBy := goodIn_r _ [25, 1, 7, 26, 27, 28, 29, 30, 31, 32, 33, 34, 35, 36, 37, 38, 39, 40] (by decide +kernel) (by decide +kernel)
set_option maxRecDepth 20000 in
theorem gX6_sensorsOf_X6_alikeBy : GoodIn wsX6_sensorsOf (wsV RX6 156 RX6 yX6_alikeBy wsX6_alikeBy) := goodIn_app (goodIn_of _ (by decide +kernel)) ggX6_sensorsOf_X6_alikeBy
theorem dX6_sensorsOf_0 : decode cX6_sensorsOf 0 = .ok (.aload_n 0, 1) := by decide +kernel
theorem dX6_sensorsOf_1 : decode cX6_sensorsOf 1 = .ok (.invokevirtual 153, 3) := by decide +kernel
theorem dX6_sensorsOf_4 : decode cX6_sensorsOf 4 = .ok (.iconst (-1), 1) := by decide +kernel
theorem dX6_sensorsOf_5 : decode cX6_sensorsOf 5 = .ok (.istore_n 2, 1) := by decide +kernel
theorem dX6_sensorsOf_6 : decode cX6_sensorsOf 6 = .ok (.bipush 11, 2) := by decide +kernel
theorem dX6_sensorsOf_8 : decode cX6_sensorsOf 8 = .ok (.istore_n 3, 1) := by decide +kernel
theorem dX6_sensorsOf_9 : decode cX6_sensorsOf 9 = .ok (.iconst 0, 1) := by decide +kernel
theorem dX6_sensorsOf_10 : decode cX6_sensorsOf 10 = .ok (.istore 4, 2) := by decide +kernel
theorem dX6_sensorsOf_12 : decode cX6_sensorsOf 12 = .ok (.iload 4, 2) := by decide +kernel
theorem dX6_sensorsOf_14 : decode cX6_sensorsOf 14 = .ok (.iconst 1, 1) := by decide +kernel
theorem dX6_sensorsOf_15 : decode cX6_sensorsOf 15 = .ok (.aload_n 0, 1) := by decide +kernel
theorem dX6_sensorsOf_16 : decode cX6_sensorsOf 16 = .ok (.getfield 7, 3) := by decide +kernel
theorem dX6_sensorsOf_19 : decode cX6_sensorsOf 19 = .ok (.iconst 0, 1) := by decide +kernel
theorem dX6_sensorsOf_20 : decode cX6_sensorsOf 20 = .ok (.iaload, 1) := by decide +kernel
theorem dX6_sensorsOf_21 : decode cX6_sensorsOf 21 = .ok (.ishl, 1) := by decide +kernel
theorem dX6_sensorsOf_22 : decode cX6_sensorsOf 22 = .ok (.if_icmp .ge 36, 3) := by decide +kernel
theorem dX6_sensorsOf_25 : decode cX6_sensorsOf 25 = .ok (.iload 4, 2) := by decide +kernel
theorem dX6_sensorsOf_27 : decode cX6_sensorsOf 27 = .ok (.invokestatic 147, 3) := by decide +kernel
theorem dX6_sensorsOf_30 : decode cX6_sensorsOf 30 = .ok (.iload_n 3, 1) := by decide +kernel
theorem dX6_sensorsOf_31 : decode cX6_sensorsOf 31 = .ok (.if_icmp .ge 21, 3) := by decide +kernel
theorem dX6_sensorsOf_34 : decode cX6_sensorsOf 34 = .ok (.aload_n 0, 1) := by decide +kernel
theorem dX6_sensorsOf_35 : decode cX6_sensorsOf 35 = .ok (.iload 4, 2) := by decide +kernel
theorem dX6_sensorsOf_37 : decode cX6_sensorsOf 37 = .ok (.invokevirtual 156, 3) := by decide +kernel
theorem dX6_sensorsOf_40 : decode cX6_sensorsOf 40 = .ok (.ifCond .ne 12, 3) := by decide +kernel
theorem dX6_sensorsOf_43 : decode cX6_sensorsOf 43 = .ok (.iload 4, 2) := by decide +kernel
theorem dX6_sensorsOf_45 : decode cX6_sensorsOf 45 = .ok (.istore_n 2, 1) := by decide +kernel
theorem dX6_sensorsOf_46 : decode cX6_sensorsOf 46 = .ok (.iload 4, 2) := by decide +kernel
theorem dX6_sensorsOf_48 : decode cX6_sensorsOf 48 = .ok (.invokestatic 147, 3) := by decide +kernel
theorem dX6_sensorsOf_51 : decode cX6_sensorsOf 51 = .ok (.istore_n 3, 1) := by decide +kernel
theorem dX6_sensorsOf_52 : decode cX6_sensorsOf 52 = .ok (.iinc 4 1, 3) := by decide +kernel
theorem dX6_sensorsOf_55 : decode cX6_sensorsOf 55 = .ok (.goto (-43), 3) := by decide +kernel
theorem dX6_sensorsOf_58 : decode cX6_sensorsOf 58 = .ok (.iload_n 1, 1) := by decide +kernel
theorem dX6_sensorsOf_59 : decode cX6_sensorsOf 59 = .ok (.ifCond .eq 8, 3) := by decide +kernel
theorem dX6_sensorsOf_62 : decode cX6_sensorsOf 62 = .ok (.iload_n 2, 1) := by decide +kernel
theorem dX6_sensorsOf_63 : decode cX6_sensorsOf 63 = .ok (.iconst (-1), 1) := by decide +kernel
theorem dX6_sensorsOf_64 : decode cX6_sensorsOf 64 = .ok (.if_icmp .ne 7, 3) := by decide +kernel
theorem dX6_sensorsOf_67 : decode cX6_sensorsOf 67 = .ok (.iload_n 2, 1) := by decide +kernel
theorem dX6_sensorsOf_68 : decode cX6_sensorsOf 68 = .ok (.goto 4, 3) := by decide +kernel
theorem dX6_sensorsOf_71 : decode cX6_sensorsOf 71 = .ok (.iload_n 3, 1) := by decide +kernel
theorem dX6_sensorsOf_72 : decode cX6_sensorsOf 72 = .ok (.ireturn, 1) := by decide +kernel
set_option maxRecDepth 20000 in
theorem ggX6_sensors_X6_in : GoodIn wsX6_sensors wsX6_in := goodIn_r _ [4] (by decide +kernel) (by decide +kernel)
set_option maxRecDepth 20000 in
theorem gX6_sensors_X6_in : GoodIn wsX6_sensors (va_wsS RX6 53 yX6_in wsX6_in) := goodIn_app (goodIn_of _ (by decide +kernel)) ggX6_sensors_X6_in
set_option maxRecDepth 20000 in
theorem ggX6_sensors_X6_sensorsOf : GoodIn wsX6_sensors wsX6_sensorsOf := goodIn_r _ [8, 9, 10, 11, 12, 3, 13, 14, 15, 16, 17, 18, 19, 20, 21, 22, 23, 24, 25, 26, 27, 28, 29, 30, 31, 32, 38, 39, 40, 41, 42, 43, 44, 45, 46, 47, 48, 49, 50, 51, 52] (by decide +kernel) (by decide +kernel)
set_option maxRecDepth 20000 in
theorem gX6_sensors_X6_sensorsOf : GoodIn wsX6_sensors (wsV RX6 159 RX6 yX6_sensorsOf wsX6_sensorsOf) := goodIn_app (goodIn_of _ (by decide +kernel)) ggX6_sensors_X6_sensorsOf
set_option maxRecDepth 20000 in
theorem ggX6_sensors_X6_refuses : GoodIn wsX6_sensors wsX6_refuses := goodIn_r _ [36, 37, 38, 39, 40, 41, 42, 43, 44, 45, 46, 47, 48, 49, 50, 51, 52] (by decide +kernel) (by decide +kernel)
set_option maxRecDepth 20000 in
theorem gX6_sensors_X6_refuses : GoodIn wsX6_sensors (wsV RX6 46 RX6 yX6_refuses wsX6_refuses) := goodIn_app (goodIn_of _ (by decide +kernel)) ggX6_sensors_X6_refuses
theorem dX6_sensors_0 : decode cX6_sensors 0 = .ok (.iload_n 1, 1) := by decide +kernel
theorem dX6_sensors_1 : decode cX6_sensors 1 = .ok (.iconst 0, 1) := by decide +kernel
theorem dX6_sensors_2 : decode cX6_sensors 2 = .ok (.iconst 1, 1) := by decide +kernel
theorem dX6_sensors_3 : decode cX6_sensors 3 = .ok (.invokestatic 53, 3) := by decide +kernel
theorem dX6_sensors_6 : decode cX6_sensors 6 = .ok (.ifCond .eq 11, 3) := by decide +kernel
theorem dX6_sensors_9 : decode cX6_sensors 9 = .ok (.aload_n 0, 1) := by decide +kernel
theorem dX6_sensors_10 : decode cX6_sensors 10 = .ok (.iload_n 1, 1) := by decide +kernel
theorem dX6_sensors_11 : decode cX6_sensors 11 = .ok (.invokevirtual 159, 3) := by decide +kernel
theorem dX6_sensors_14 : decode cX6_sensors 14 = .ok (.goto 9, 3) := by decide +kernel
theorem dX6_sensors_17 : decode cX6_sensors 17 = .ok (.aload_n 0, 1) := by decide +kernel
theorem dX6_sensors_18 : decode cX6_sensors 18 = .ok (.bipush (-2), 2) := by decide +kernel
theorem dX6_sensors_20 : decode cX6_sensors 20 = .ok (.invokevirtual 46, 3) := by decide +kernel
theorem dX6_sensors_23 : decode cX6_sensors 23 = .ok (.ireturn, 1) := by decide +kernel
set_option maxRecDepth 20000 in
theorem ggX6_type_X6_in : GoodIn wsX6_type wsX6_in := goodIn_r _ [6] (by decide +kernel) (by decide +kernel)
set_option maxRecDepth 20000 in
theorem gX6_type_X6_in : GoodIn wsX6_type (va_wsS RX6 53 yX6_in wsX6_in) := goodIn_app (goodIn_of _ (by decide +kernel)) ggX6_type_X6_in
set_option maxRecDepth 20000 in
theorem ggX6_type_X6_refuses : GoodIn wsX6_type wsX6_refuses := goodIn_r _ [10, 11, 12, 13, 14, 15, 16, 17, 18, 19, 20, 21, 22, 23, 24, 25, 26] (by decide +kernel) (by decide +kernel)
set_option maxRecDepth 20000 in
theorem gX6_type_X6_refuses : GoodIn wsX6_type (wsV RX6 46 RX6 yX6_refuses wsX6_refuses) := goodIn_app (goodIn_of _ (by decide +kernel)) ggX6_type_X6_refuses
theorem dX6_type_0 : decode cX6_type 0 = .ok (.iload_n 1, 1) := by decide +kernel
theorem dX6_type_1 : decode cX6_type 1 = .ok (.iconst 0, 1) := by decide +kernel
theorem dX6_type_2 : decode cX6_type 2 = .ok (.bipush 127, 2) := by decide +kernel
theorem dX6_type_4 : decode cX6_type 4 = .ok (.invokestatic 53, 3) := by decide +kernel
theorem dX6_type_7 : decode cX6_type 7 = .ok (.ifCond .ne 10, 3) := by decide +kernel
theorem dX6_type_10 : decode cX6_type 10 = .ok (.aload_n 0, 1) := by decide +kernel
theorem dX6_type_11 : decode cX6_type 11 = .ok (.bipush (-2), 2) := by decide +kernel
theorem dX6_type_13 : decode cX6_type 13 = .ok (.invokevirtual 46, 3) := by decide +kernel
theorem dX6_type_16 : decode cX6_type 16 = .ok (.ireturn, 1) := by decide +kernel
theorem dX6_type_17 : decode cX6_type 17 = .ok (.aload_n 0, 1) := by decide +kernel
theorem dX6_type_18 : decode cX6_type 18 = .ok (.getfield 162, 3) := by decide +kernel
theorem dX6_type_21 : decode cX6_type 21 = .ok (.bipush 120, 2) := by decide +kernel
theorem dX6_type_23 : decode cX6_type 23 = .ok (.if_icmp .ne 10, 3) := by decide +kernel
theorem dX6_type_26 : decode cX6_type 26 = .ok (.aload_n 0, 1) := by decide +kernel
theorem dX6_type_27 : decode cX6_type 27 = .ok (.bipush (-4), 2) := by decide +kernel
theorem dX6_type_29 : decode cX6_type 29 = .ok (.invokevirtual 46, 3) := by decide +kernel
theorem dX6_type_32 : decode cX6_type 32 = .ok (.ireturn, 1) := by decide +kernel
theorem dX6_type_33 : decode cX6_type 33 = .ok (.aload_n 0, 1) := by decide +kernel
theorem dX6_type_34 : decode cX6_type 34 = .ok (.getfield 29, 3) := by decide +kernel
theorem dX6_type_37 : decode cX6_type 37 = .ok (.aload_n 0, 1) := by decide +kernel
theorem dX6_type_38 : decode cX6_type 38 = .ok (.getfield 162, 3) := by decide +kernel
theorem dX6_type_41 : decode cX6_type 41 = .ok (.iload_n 1, 1) := by decide +kernel
theorem dX6_type_42 : decode cX6_type 42 = .ok (.iastore, 1) := by decide +kernel
theorem dX6_type_43 : decode cX6_type 43 = .ok (.aload_n 0, 1) := by decide +kernel
theorem dX6_type_44 : decode cX6_type 44 = .ok (.dup, 1) := by decide +kernel
theorem dX6_type_45 : decode cX6_type 45 = .ok (.getfield 162, 3) := by decide +kernel
theorem dX6_type_48 : decode cX6_type 48 = .ok (.iconst 1, 1) := by decide +kernel
theorem dX6_type_49 : decode cX6_type 49 = .ok (.iadd, 1) := by decide +kernel
theorem dX6_type_50 : decode cX6_type 50 = .ok (.putfield 162, 3) := by decide +kernel
theorem dX6_type_53 : decode cX6_type 53 = .ok (.aload_n 0, 1) := by decide +kernel
theorem dX6_type_54 : decode cX6_type 54 = .ok (.getfield 162, 3) := by decide +kernel
theorem dX6_type_57 : decode cX6_type 57 = .ok (.ireturn, 1) := by decide +kernel
theorem dX6_clear_0 : decode cX6_clear 0 = .ok (.aload_n 0, 1) := by decide +kernel
theorem dX6_clear_1 : decode cX6_clear 1 = .ok (.getfield 162, 3) := by decide +kernel
theorem dX6_clear_4 : decode cX6_clear 4 = .ok (.istore_n 1, 1) := by decide +kernel
theorem dX6_clear_5 : decode cX6_clear 5 = .ok (.aload_n 0, 1) := by decide +kernel
theorem dX6_clear_6 : decode cX6_clear 6 = .ok (.iconst 0, 1) := by decide +kernel
theorem dX6_clear_7 : decode cX6_clear 7 = .ok (.putfield 162, 3) := by decide +kernel
theorem dX6_clear_10 : decode cX6_clear 10 = .ok (.iload_n 1, 1) := by decide +kernel
theorem dX6_clear_11 : decode cX6_clear 11 = .ok (.ireturn, 1) := by decide +kernel
theorem dX6_here_0 : decode cX6_here 0 = .ok (.aload_n 0, 1) := by decide +kernel
theorem dX6_here_1 : decode cX6_here 1 = .ok (.getfield 165, 3) := by decide +kernel
theorem dX6_here_4 : decode cX6_here 4 = .ok (.aload_n 0, 1) := by decide +kernel
theorem dX6_here_5 : decode cX6_here 5 = .ok (.getfield 162, 3) := by decide +kernel
theorem dX6_here_8 : decode cX6_here 8 = .ok (.if_icmp .ge 30, 3) := by decide +kernel
theorem dX6_here_11 : decode cX6_here 11 = .ok (.aload_n 0, 1) := by decide +kernel
theorem dX6_here_12 : decode cX6_here 12 = .ok (.getfield 29, 3) := by decide +kernel
theorem dX6_here_15 : decode cX6_here 15 = .ok (.aload_n 0, 1) := by decide +kernel
theorem dX6_here_16 : decode cX6_here 16 = .ok (.getfield 165, 3) := by decide +kernel
theorem dX6_here_19 : decode cX6_here 19 = .ok (.iaload, 1) := by decide +kernel
theorem dX6_here_20 : decode cX6_here 20 = .ok (.bipush 32, 2) := by decide +kernel
theorem dX6_here_22 : decode cX6_here 22 = .ok (.if_icmp .ne 16, 3) := by decide +kernel
theorem dX6_here_25 : decode cX6_here 25 = .ok (.aload_n 0, 1) := by decide +kernel
theorem dX6_here_26 : decode cX6_here 26 = .ok (.dup, 1) := by decide +kernel
theorem dX6_here_27 : decode cX6_here 27 = .ok (.getfield 165, 3) := by decide +kernel
theorem dX6_here_30 : decode cX6_here 30 = .ok (.iconst 1, 1) := by decide +kernel
theorem dX6_here_31 : decode cX6_here 31 = .ok (.iadd, 1) := by decide +kernel
theorem dX6_here_32 : decode cX6_here 32 = .ok (.putfield 165, 3) := by decide +kernel
theorem dX6_here_35 : decode cX6_here 35 = .ok (.goto (-35), 3) := by decide +kernel
theorem dX6_here_38 : decode cX6_here 38 = .ok (.aload_n 0, 1) := by decide +kernel
theorem dX6_here_39 : decode cX6_here 39 = .ok (.getfield 165, 3) := by decide +kernel
theorem dX6_here_42 : decode cX6_here 42 = .ok (.aload_n 0, 1) := by decide +kernel
theorem dX6_here_43 : decode cX6_here 43 = .ok (.getfield 162, 3) := by decide +kernel
theorem dX6_here_46 : decode cX6_here 46 = .ok (.if_icmp .ge 15, 3) := by decide +kernel
theorem dX6_here_49 : decode cX6_here 49 = .ok (.aload_n 0, 1) := by decide +kernel
theorem dX6_here_50 : decode cX6_here 50 = .ok (.getfield 29, 3) := by decide +kernel
theorem dX6_here_53 : decode cX6_here 53 = .ok (.aload_n 0, 1) := by decide +kernel
theorem dX6_here_54 : decode cX6_here 54 = .ok (.getfield 165, 3) := by decide +kernel
theorem dX6_here_57 : decode cX6_here 57 = .ok (.iaload, 1) := by decide +kernel
theorem dX6_here_58 : decode cX6_here 58 = .ok (.goto 4, 3) := by decide +kernel
theorem dX6_here_61 : decode cX6_here 61 = .ok (.iconst (-1), 1) := by decide +kernel
theorem dX6_here_62 : decode cX6_here 62 = .ok (.ireturn, 1) := by decide +kernel
theorem dX6_must_0 : decode cX6_must 0 = .ok (.aload_n 0, 1) := by decide +kernel
theorem dX6_must_1 : decode cX6_must 1 = .ok (.getfield 168, 3) := by decide +kernel
theorem dX6_must_4 : decode cX6_must 4 = .ok (.iconst (-1), 1) := by decide +kernel
theorem dX6_must_5 : decode cX6_must 5 = .ok (.if_icmp .ne 28, 3) := by decide +kernel
theorem dX6_must_8 : decode cX6_must 8 = .ok (.iload_n 1, 1) := by decide +kernel
theorem dX6_must_9 : decode cX6_must 9 = .ok (.ifCond .eq 16, 3) := by decide +kernel
theorem dX6_must_12 : decode cX6_must 12 = .ok (.aload_n 0, 1) := by decide +kernel
theorem dX6_must_13 : decode cX6_must 13 = .ok (.dup, 1) := by decide +kernel
theorem dX6_must_14 : decode cX6_must 14 = .ok (.getfield 165, 3) := by decide +kernel
theorem dX6_must_17 : decode cX6_must 17 = .ok (.iconst 1, 1) := by decide +kernel
theorem dX6_must_18 : decode cX6_must 18 = .ok (.iadd, 1) := by decide +kernel
theorem dX6_must_19 : decode cX6_must 19 = .ok (.putfield 165, 3) := by decide +kernel
theorem dX6_must_22 : decode cX6_must 22 = .ok (.goto 11, 3) := by decide +kernel
theorem dX6_must_25 : decode cX6_must 25 = .ok (.aload_n 0, 1) := by decide +kernel
theorem dX6_must_26 : decode cX6_must 26 = .ok (.aload_n 0, 1) := by decide +kernel
theorem dX6_must_27 : decode cX6_must 27 = .ok (.getfield 165, 3) := by decide +kernel
theorem dX6_must_30 : decode cX6_must 30 = .ok (.putfield 168, 3) := by decide +kernel
theorem dX6_must_33 : decode cX6_must 33 = .ok (.return_, 1) := by decide +kernel
set_option maxRecDepth 20000 in
theorem ggX6_isFigure_X6_in : GoodIn wsX6_isFigure wsX6_in := goodIn_r _ [7] (by decide +kernel) (by decide +kernel)
set_option maxRecDepth 20000 in
theorem gX6_isFigure_X6_in : GoodIn wsX6_isFigure (va_wsS RX6 53 yX6_in wsX6_in) := goodIn_app (goodIn_of _ (by decide +kernel)) ggX6_isFigure_X6_in
theorem dX6_isFigure_0 : decode cX6_isFigure 0 = .ok (.aload_n 0, 1) := by decide +kernel
theorem dX6_isFigure_1 : decode cX6_isFigure 1 = .ok (.getfield 165, 3) := by decide +kernel
theorem dX6_isFigure_4 : decode cX6_isFigure 4 = .ok (.aload_n 0, 1) := by decide +kernel
theorem dX6_isFigure_5 : decode cX6_isFigure 5 = .ok (.getfield 162, 3) := by decide +kernel
theorem dX6_isFigure_8 : decode cX6_isFigure 8 = .ok (.if_icmp .ge 26, 3) := by decide +kernel
theorem dX6_isFigure_11 : decode cX6_isFigure 11 = .ok (.aload_n 0, 1) := by decide +kernel
theorem dX6_isFigure_12 : decode cX6_isFigure 12 = .ok (.getfield 29, 3) := by decide +kernel
theorem dX6_isFigure_15 : decode cX6_isFigure 15 = .ok (.aload_n 0, 1) := by decide +kernel
theorem dX6_isFigure_16 : decode cX6_isFigure 16 = .ok (.getfield 165, 3) := by decide +kernel
theorem dX6_isFigure_19 : decode cX6_isFigure 19 = .ok (.iaload, 1) := by decide +kernel
theorem dX6_isFigure_20 : decode cX6_isFigure 20 = .ok (.bipush 48, 2) := by decide +kernel
theorem dX6_isFigure_22 : decode cX6_isFigure 22 = .ok (.bipush 57, 2) := by decide +kernel
theorem dX6_isFigure_24 : decode cX6_isFigure 24 = .ok (.invokestatic 53, 3) := by decide +kernel
theorem dX6_isFigure_27 : decode cX6_isFigure 27 = .ok (.ifCond .eq 7, 3) := by decide +kernel
theorem dX6_isFigure_30 : decode cX6_isFigure 30 = .ok (.iconst 1, 1) := by decide +kernel
theorem dX6_isFigure_31 : decode cX6_isFigure 31 = .ok (.goto 4, 3) := by decide +kernel
theorem dX6_isFigure_34 : decode cX6_isFigure 34 = .ok (.iconst 0, 1) := by decide +kernel
theorem dX6_isFigure_35 : decode cX6_isFigure 35 = .ok (.ireturn, 1) := by decide +kernel
set_option maxRecDepth 20000 in
theorem ggX6_number_X6_here : GoodIn wsX6_number wsX6_here := goodIn_r _ [8, 3, 9, 2, 21, 22, 23, 24, 25, 26, 27, 28, 29, 30, 31, 32, 33, 34, 35] (by decide +kernel) (by decide +kernel)
set_option maxRecDepth 20000 in
theorem gX6_number_X6_here : GoodIn wsX6_number (wsV RX6 171 RX6 yX6_here wsX6_here) := goodIn_app (goodIn_of _ (by decide +kernel)) ggX6_number_X6_here
set_option maxRecDepth 20000 in
theorem ggX6_number_X6_in : GoodIn wsX6_number wsX6_in := goodIn_r _ [12] (by decide +kernel) (by decide +kernel)
set_option maxRecDepth 20000 in
theorem gX6_number_X6_in : GoodIn wsX6_number (va_wsS RX6 53 yX6_in wsX6_in) := goodIn_app (goodIn_of _ (by decide +kernel)) ggX6_number_X6_in
set_option maxRecDepth 20000 in
theorem ggX6_number_X6_must : GoodIn wsX6_number wsX6_must := goodIn_r _ [16, 1, 3, 21, 22, 23, 24, 25, 26, 27, 28, 29, 30, 31, 32, 33, 34, 35] (by decide +kernel) (by decide +kernel)
set_option maxRecDepth 20000 in
theorem gX6_number_X6_must : GoodIn wsX6_number (wsV RX6 174 RX6 yX6_must wsX6_must) := goodIn_app (goodIn_of _ (by decide +kernel)) ggX6_number_X6_must
set_option maxRecDepth 20000 in
theorem ggX6_number_X6_isFigure : GoodIn wsX6_number wsX6_isFigure := goodIn_r _ [20, 3, 9, 2, 10, 11, 7, 12, 21, 22, 23, 24, 25, 26, 27, 28, 29, 30, 31, 32, 33, 34, 35] (by decide +kernel) (by decide +kernel)
set_option maxRecDepth 20000 in
theorem gX6_number_X6_isFigure : GoodIn wsX6_number (wsV RX6 178 RX6 yX6_isFigure wsX6_isFigure) := goodIn_app (goodIn_of _ (by decide +kernel)) ggX6_number_X6_isFigure
theorem dX6_number_0 : decode cX6_number 0 = .ok (.aload_n 0, 1) := by decide +kernel
theorem dX6_number_1 : decode cX6_number 1 = .ok (.aload_n 0, 1) := by decide +kernel
theorem dX6_number_2 : decode cX6_number 2 = .ok (.invokevirtual 171, 3) := by decide +kernel
theorem dX6_number_5 : decode cX6_number 5 = .ok (.bipush 48, 2) := by decide +kernel
theorem dX6_number_7 : decode cX6_number 7 = .ok (.bipush 57, 2) := by decide +kernel
theorem dX6_number_9 : decode cX6_number 9 = .ok (.invokestatic 53, 3) := by decide +kernel
theorem dX6_number_12 : decode cX6_number 12 = .ok (.invokevirtual 174, 3) := by decide +kernel
theorem dX6_number_15 : decode cX6_number 15 = .ok (.aload_n 0, 1) := by decide +kernel
theorem dX6_number_16 : decode cX6_number 16 = .ok (.getfield 168, 3) := by decide +kernel
theorem dX6_number_19 : decode cX6_number 19 = .ok (.iconst (-1), 1) := by decide +kernel
theorem dX6_number_20 : decode cX6_number 20 = .ok (.if_icmp .eq 5, 3) := by decide +kernel
theorem dX6_number_23 : decode cX6_number 23 = .ok (.iconst 0, 1) := by decide +kernel
theorem dX6_number_24 : decode cX6_number 24 = .ok (.ireturn, 1) := by decide +kernel
theorem dX6_number_25 : decode cX6_number 25 = .ok (.aload_n 0, 1) := by decide +kernel
theorem dX6_number_26 : decode cX6_number 26 = .ok (.getfield 29, 3) := by decide +kernel
theorem dX6_number_29 : decode cX6_number 29 = .ok (.aload_n 0, 1) := by decide +kernel
theorem dX6_number_30 : decode cX6_number 30 = .ok (.getfield 165, 3) := by decide +kernel
theorem dX6_number_33 : decode cX6_number 33 = .ok (.iconst 1, 1) := by decide +kernel
theorem dX6_number_34 : decode cX6_number 34 = .ok (.isub, 1) := by decide +kernel
theorem dX6_number_35 : decode cX6_number 35 = .ok (.iaload, 1) := by decide +kernel
theorem dX6_number_36 : decode cX6_number 36 = .ok (.bipush 48, 2) := by decide +kernel
theorem dX6_number_38 : decode cX6_number 38 = .ok (.isub, 1) := by decide +kernel
theorem dX6_number_39 : decode cX6_number 39 = .ok (.istore_n 1, 1) := by decide +kernel
theorem dX6_number_40 : decode cX6_number 40 = .ok (.aload_n 0, 1) := by decide +kernel
theorem dX6_number_41 : decode cX6_number 41 = .ok (.invokevirtual 178, 3) := by decide +kernel
theorem dX6_number_44 : decode cX6_number 44 = .ok (.ifCond .eq 31, 3) := by decide +kernel
theorem dX6_number_47 : decode cX6_number 47 = .ok (.bipush 10, 2) := by decide +kernel
theorem dX6_number_49 : decode cX6_number 49 = .ok (.iload_n 1, 1) := by decide +kernel
theorem dX6_number_50 : decode cX6_number 50 = .ok (.imul, 1) := by decide +kernel
theorem dX6_number_51 : decode cX6_number 51 = .ok (.aload_n 0, 1) := by decide +kernel
theorem dX6_number_52 : decode cX6_number 52 = .ok (.getfield 29, 3) := by decide +kernel
theorem dX6_number_55 : decode cX6_number 55 = .ok (.aload_n 0, 1) := by decide +kernel
theorem dX6_number_56 : decode cX6_number 56 = .ok (.getfield 165, 3) := by decide +kernel
theorem dX6_number_59 : decode cX6_number 59 = .ok (.iaload, 1) := by decide +kernel
theorem dX6_number_60 : decode cX6_number 60 = .ok (.iadd, 1) := by decide +kernel
theorem dX6_number_61 : decode cX6_number 61 = .ok (.bipush 48, 2) := by decide +kernel
theorem dX6_number_63 : decode cX6_number 63 = .ok (.isub, 1) := by decide +kernel
theorem dX6_number_64 : decode cX6_number 64 = .ok (.istore_n 1, 1) := by decide +kernel
theorem dX6_number_65 : decode cX6_number 65 = .ok (.aload_n 0, 1) := by decide +kernel
theorem dX6_number_66 : decode cX6_number 66 = .ok (.dup, 1) := by decide +kernel
theorem dX6_number_67 : decode cX6_number 67 = .ok (.getfield 165, 3) := by decide +kernel
theorem dX6_number_70 : decode cX6_number 70 = .ok (.iconst 1, 1) := by decide +kernel
theorem dX6_number_71 : decode cX6_number 71 = .ok (.iadd, 1) := by decide +kernel
theorem dX6_number_72 : decode cX6_number 72 = .ok (.putfield 165, 3) := by decide +kernel
theorem dX6_number_75 : decode cX6_number 75 = .ok (.aload_n 0, 1) := by decide +kernel
theorem dX6_number_76 : decode cX6_number 76 = .ok (.invokevirtual 178, 3) := by decide +kernel
theorem dX6_number_79 : decode cX6_number 79 = .ok (.ifCond .eq 11, 3) := by decide +kernel
theorem dX6_number_82 : decode cX6_number 82 = .ok (.aload_n 0, 1) := by decide +kernel
theorem dX6_number_83 : decode cX6_number 83 = .ok (.aload_n 0, 1) := by decide +kernel
theorem dX6_number_84 : decode cX6_number 84 = .ok (.getfield 165, 3) := by decide +kernel
theorem dX6_number_87 : decode cX6_number 87 = .ok (.putfield 168, 3) := by decide +kernel
theorem dX6_number_90 : decode cX6_number 90 = .ok (.iload_n 1, 1) := by decide +kernel
theorem dX6_number_91 : decode cX6_number 91 = .ok (.ireturn, 1) := by decide +kernel
theorem dX6_numbersOf_0 : decode cX6_numbersOf 0 = .ok (.iload_n 0, 1) := by decide +kernel
theorem dX6_numbersOf_1 : decode cX6_numbersOf 1 = .ok (.lookupswitch 57 #[(99, 53), (101, 53), (112, 51), (115, 53), (120, 55)], 51) := by decide +kernel
theorem dX6_numbersOf_52 : decode cX6_numbersOf 52 = .ok (.iconst 4, 1) := by decide +kernel
theorem dX6_numbersOf_53 : decode cX6_numbersOf 53 = .ok (.ireturn, 1) := by decide +kernel
theorem dX6_numbersOf_54 : decode cX6_numbersOf 54 = .ok (.iconst 2, 1) := by decide +kernel
theorem dX6_numbersOf_55 : decode cX6_numbersOf 55 = .ok (.ireturn, 1) := by decide +kernel
theorem dX6_numbersOf_56 : decode cX6_numbersOf 56 = .ok (.iconst 1, 1) := by decide +kernel
theorem dX6_numbersOf_57 : decode cX6_numbersOf 57 = .ok (.ireturn, 1) := by decide +kernel
theorem dX6_numbersOf_58 : decode cX6_numbersOf 58 = .ok (.iconst (-1), 1) := by decide +kernel
theorem dX6_numbersOf_59 : decode cX6_numbersOf 59 = .ok (.ireturn, 1) := by decide +kernel
set_option maxRecDepth 20000 in
theorem ggX6_readOrder_X6_here : GoodIn wsX6_readOrder wsX6_here := goodIn_r _ [9, 10, 11, 12, 31, 32, 33, 34, 35, 36, 37, 38, 39, 40, 41, 42, 43, 44, 45] (by decide +kernel) (by decide +kernel)
set_option maxRecDepth 20000 in
theorem gX6_readOrder_X6_here : GoodIn wsX6_readOrder (wsV RX6 171 RX6 yX6_here wsX6_here) := goodIn_app (goodIn_of _ (by decide +kernel)) ggX6_readOrder_X6_here
set_option maxRecDepth 20000 in
theorem ggX6_readOrder_X6_numbersOf : GoodIn wsX6_readOrder wsX6_numbersOf := goodIn_r _ [15] (by decide +kernel) (by decide +kernel)
set_option maxRecDepth 20000 in
theorem gX6_readOrder_X6_numbersOf : GoodIn wsX6_readOrder (va_wsS RX6 182 yX6_numbersOf wsX6_numbersOf) := goodIn_app (goodIn_of _ (by decide +kernel)) ggX6_readOrder_X6_numbersOf
set_option maxRecDepth 20000 in
theorem ggX6_readOrder_X6_must : GoodIn wsX6_readOrder wsX6_must := goodIn_r _ [19, 1, 10, 31, 32, 33, 34, 35, 36, 37, 38, 39, 40, 41, 42, 43, 44, 45] (by decide +kernel) (by decide +kernel)
set_option maxRecDepth 20000 in
theorem gX6_readOrder_X6_must : GoodIn wsX6_readOrder (wsV RX6 174 RX6 yX6_must wsX6_must) := goodIn_app (goodIn_of _ (by decide +kernel)) ggX6_readOrder_X6_must
set_option maxRecDepth 20000 in
theorem ggX6_readOrder_X6_number : GoodIn wsX6_readOrder wsX6_number := goodIn_r _ [23, 1, 12, 10, 5, 6, 7, 8, 9, 11, 24, 25, 26, 16, 17, 18, 19, 27, 28, 29, 30, 31, 32, 33, 34, 35, 36, 37, 38, 39, 40, 41, 42, 43, 44, 45] (by decide +kernel) (by decide +kernel)
set_option maxRecDepth 20000 in
theorem gX6_readOrder_X6_number : GoodIn wsX6_readOrder (wsV RX6 188 RX6 yX6_number wsX6_number) := goodIn_app (goodIn_of _ (by decide +kernel)) ggX6_readOrder_X6_number
theorem dX6_readOrder_0 : decode cX6_readOrder 0 = .ok (.aload_n 0, 1) := by decide +kernel
theorem dX6_readOrder_1 : decode cX6_readOrder 1 = .ok (.invokevirtual 171, 3) := by decide +kernel
theorem dX6_readOrder_4 : decode cX6_readOrder 4 = .ok (.istore_n 1, 1) := by decide +kernel
theorem dX6_readOrder_5 : decode cX6_readOrder 5 = .ok (.iload_n 1, 1) := by decide +kernel
theorem dX6_readOrder_6 : decode cX6_readOrder 6 = .ok (.invokestatic 182, 3) := by decide +kernel
theorem dX6_readOrder_9 : decode cX6_readOrder 9 = .ok (.istore_n 2, 1) := by decide +kernel
theorem dX6_readOrder_10 : decode cX6_readOrder 10 = .ok (.aload_n 0, 1) := by decide +kernel
theorem dX6_readOrder_11 : decode cX6_readOrder 11 = .ok (.iload_n 2, 1) := by decide +kernel
theorem dX6_readOrder_12 : decode cX6_readOrder 12 = .ok (.iconst (-1), 1) := by decide +kernel
theorem dX6_readOrder_13 : decode cX6_readOrder 13 = .ok (.if_icmp .eq 7, 3) := by decide +kernel
theorem dX6_readOrder_16 : decode cX6_readOrder 16 = .ok (.iconst 1, 1) := by decide +kernel
theorem dX6_readOrder_17 : decode cX6_readOrder 17 = .ok (.goto 4, 3) := by decide +kernel
theorem dX6_readOrder_20 : decode cX6_readOrder 20 = .ok (.iconst 0, 1) := by decide +kernel
theorem dX6_readOrder_21 : decode cX6_readOrder 21 = .ok (.invokevirtual 174, 3) := by decide +kernel
theorem dX6_readOrder_24 : decode cX6_readOrder 24 = .ok (.iconst 0, 1) := by decide +kernel
theorem dX6_readOrder_25 : decode cX6_readOrder 25 = .ok (.istore_n 3, 1) := by decide +kernel
theorem dX6_readOrder_26 : decode cX6_readOrder 26 = .ok (.iload_n 3, 1) := by decide +kernel
theorem dX6_readOrder_27 : decode cX6_readOrder 27 = .ok (.iload_n 2, 1) := by decide +kernel
theorem dX6_readOrder_28 : decode cX6_readOrder 28 = .ok (.if_icmp .ge 34, 3) := by decide +kernel
theorem dX6_readOrder_31 : decode cX6_readOrder 31 = .ok (.aload_n 0, 1) := by decide +kernel
theorem dX6_readOrder_32 : decode cX6_readOrder 32 = .ok (.getfield 168, 3) := by decide +kernel
theorem dX6_readOrder_35 : decode cX6_readOrder 35 = .ok (.iconst (-1), 1) := by decide +kernel
theorem dX6_readOrder_36 : decode cX6_readOrder 36 = .ok (.if_icmp .ne 26, 3) := by decide +kernel
theorem dX6_readOrder_39 : decode cX6_readOrder 39 = .ok (.aload_n 0, 1) := by decide +kernel
theorem dX6_readOrder_40 : decode cX6_readOrder 40 = .ok (.getfield 35, 3) := by decide +kernel
theorem dX6_readOrder_43 : decode cX6_readOrder 43 = .ok (.iconst 4, 1) := by decide +kernel
theorem dX6_readOrder_44 : decode cX6_readOrder 44 = .ok (.aload_n 0, 1) := by decide +kernel
theorem dX6_readOrder_45 : decode cX6_readOrder 45 = .ok (.getfield 185, 3) := by decide +kernel
theorem dX6_readOrder_48 : decode cX6_readOrder 48 = .ok (.imul, 1) := by decide +kernel
theorem dX6_readOrder_49 : decode cX6_readOrder 49 = .ok (.iload_n 3, 1) := by decide +kernel
theorem dX6_readOrder_50 : decode cX6_readOrder 50 = .ok (.iadd, 1) := by decide +kernel
theorem dX6_readOrder_51 : decode cX6_readOrder 51 = .ok (.aload_n 0, 1) := by decide +kernel
theorem dX6_readOrder_52 : decode cX6_readOrder 52 = .ok (.invokevirtual 188, 3) := by decide +kernel
theorem dX6_readOrder_55 : decode cX6_readOrder 55 = .ok (.iastore, 1) := by decide +kernel
theorem dX6_readOrder_56 : decode cX6_readOrder 56 = .ok (.iinc 3 1, 3) := by decide +kernel
theorem dX6_readOrder_59 : decode cX6_readOrder 59 = .ok (.goto (-33), 3) := by decide +kernel
theorem dX6_readOrder_62 : decode cX6_readOrder 62 = .ok (.aload_n 0, 1) := by decide +kernel
theorem dX6_readOrder_63 : decode cX6_readOrder 63 = .ok (.getfield 168, 3) := by decide +kernel
theorem dX6_readOrder_66 : decode cX6_readOrder 66 = .ok (.iconst (-1), 1) := by decide +kernel
theorem dX6_readOrder_67 : decode cX6_readOrder 67 = .ok (.if_icmp .ne 41, 3) := by decide +kernel
theorem dX6_readOrder_70 : decode cX6_readOrder 70 = .ok (.aload_n 0, 1) := by decide +kernel
theorem dX6_readOrder_71 : decode cX6_readOrder 71 = .ok (.getfield 32, 3) := by decide +kernel
theorem dX6_readOrder_74 : decode cX6_readOrder 74 = .ok (.aload_n 0, 1) := by decide +kernel
theorem dX6_readOrder_75 : decode cX6_readOrder 75 = .ok (.getfield 185, 3) := by decide +kernel
theorem dX6_readOrder_78 : decode cX6_readOrder 78 = .ok (.iload_n 1, 1) := by decide +kernel
theorem dX6_readOrder_79 : decode cX6_readOrder 79 = .ok (.iastore, 1) := by decide +kernel
theorem dX6_readOrder_80 : decode cX6_readOrder 80 = .ok (.aload_n 0, 1) := by decide +kernel
theorem dX6_readOrder_81 : decode cX6_readOrder 81 = .ok (.dup, 1) := by decide +kernel
theorem dX6_readOrder_82 : decode cX6_readOrder 82 = .ok (.getfield 185, 3) := by decide +kernel
theorem dX6_readOrder_85 : decode cX6_readOrder 85 = .ok (.iconst 1, 1) := by decide +kernel
theorem dX6_readOrder_86 : decode cX6_readOrder 86 = .ok (.iadd, 1) := by decide +kernel
theorem dX6_readOrder_87 : decode cX6_readOrder 87 = .ok (.putfield 185, 3) := by decide +kernel
theorem dX6_readOrder_90 : decode cX6_readOrder 90 = .ok (.aload_n 0, 1) := by decide +kernel
theorem dX6_readOrder_91 : decode cX6_readOrder 91 = .ok (.aload_n 0, 1) := by decide +kernel
theorem dX6_readOrder_92 : decode cX6_readOrder 92 = .ok (.invokevirtual 171, 3) := by decide +kernel
theorem dX6_readOrder_95 : decode cX6_readOrder 95 = .ok (.bipush 59, 2) := by decide +kernel
theorem dX6_readOrder_97 : decode cX6_readOrder 97 = .ok (.if_icmp .ne 7, 3) := by decide +kernel
theorem dX6_readOrder_100 : decode cX6_readOrder 100 = .ok (.iconst 1, 1) := by decide +kernel
theorem dX6_readOrder_101 : decode cX6_readOrder 101 = .ok (.goto 4, 3) := by decide +kernel
theorem dX6_readOrder_104 : decode cX6_readOrder 104 = .ok (.iconst 0, 1) := by decide +kernel
theorem dX6_readOrder_105 : decode cX6_readOrder 105 = .ok (.invokevirtual 174, 3) := by decide +kernel
theorem dX6_readOrder_108 : decode cX6_readOrder 108 = .ok (.return_, 1) := by decide +kernel
set_option maxRecDepth 20000 in
theorem ggX6_doOrder_X6_doShaft : GoodIn wsX6_doOrder wsX6_doShaft := goodIn_r _ [7, 8, 9, 10, 6, 11, 12, 13, 14, 46, 47, 48, 49, 50, 51, 52, 53, 54, 55, 56, 57, 58, 59, 60] (by decide +kernel) (by decide +kernel)
set_option maxRecDepth 20000 in
theorem gX6_doOrder_X6_doShaft : GoodIn wsX6_doOrder (wsV RX6 77 RX6 yX6_doShaft wsX6_doShaft) := goodIn_app (goodIn_of _ (by decide +kernel)) ggX6_doOrder_X6_doShaft
set_option maxRecDepth 20000 in
theorem ggX6_doOrder_X6_doPipe : GoodIn wsX6_doOrder wsX6_doPipe := goodIn_r _ [18, 8, 19, 20, 21, 6, 22, 12, 13, 14, 23, 24, 25, 26, 27, 28, 29, 30, 31, 32, 33, 46, 47, 48, 49, 50, 51, 52, 53, 54, 55, 56, 57, 58, 59, 60] (by decide +kernel) (by decide +kernel)
set_option maxRecDepth 20000 in
theorem gX6_doOrder_X6_doPipe : GoodIn wsX6_doOrder (wsV RX6 87 RX6 yX6_doPipe wsX6_doPipe) := goodIn_app (goodIn_of _ (by decide +kernel)) ggX6_doOrder_X6_doPipe
set_option maxRecDepth 20000 in
theorem ggX6_doOrder_X6_doSight : GoodIn wsX6_doOrder wsX6_doSight := goodIn_r _ [37, 8, 12, 13, 6, 14, 19, 20, 21, 22, 46, 47, 48, 49, 50, 51, 52, 53, 54, 55, 56, 57, 58, 59, 60] (by decide +kernel) (by decide +kernel)
set_option maxRecDepth 20000 in
theorem gX6_doOrder_X6_doSight : GoodIn wsX6_doOrder (wsV RX6 94 RX6 yX6_doSight wsX6_doSight) := goodIn_app (goodIn_of _ (by decide +kernel)) ggX6_doOrder_X6_doSight
set_option maxRecDepth 20000 in
theorem ggX6_doOrder_X6_doDrops : GoodIn wsX6_doOrder wsX6_doDrops := goodIn_r _ [41, 8, 42, 43, 44, 6, 45, 12, 13, 14, 46, 47, 48, 49, 50, 51, 52, 53, 54, 55, 56, 57, 58, 59, 60] (by decide +kernel) (by decide +kernel)
set_option maxRecDepth 20000 in
theorem gX6_doOrder_X6_doDrops : GoodIn wsX6_doOrder (wsV RX6 91 RX6 yX6_doDrops wsX6_doDrops) := goodIn_app (goodIn_of _ (by decide +kernel)) ggX6_doOrder_X6_doDrops
theorem dX6_doOrder_0 : decode cX6_doOrder 0 = .ok (.aload_n 0, 1) := by decide +kernel
theorem dX6_doOrder_1 : decode cX6_doOrder 1 = .ok (.getfield 35, 3) := by decide +kernel
theorem dX6_doOrder_4 : decode cX6_doOrder 4 = .ok (.iconst 4, 1) := by decide +kernel
theorem dX6_doOrder_5 : decode cX6_doOrder 5 = .ok (.iload_n 1, 1) := by decide +kernel
theorem dX6_doOrder_6 : decode cX6_doOrder 6 = .ok (.imul, 1) := by decide +kernel
theorem dX6_doOrder_7 : decode cX6_doOrder 7 = .ok (.iaload, 1) := by decide +kernel
theorem dX6_doOrder_8 : decode cX6_doOrder 8 = .ok (.istore_n 2, 1) := by decide +kernel
theorem dX6_doOrder_9 : decode cX6_doOrder 9 = .ok (.aload_n 0, 1) := by decide +kernel
theorem dX6_doOrder_10 : decode cX6_doOrder 10 = .ok (.getfield 35, 3) := by decide +kernel
theorem dX6_doOrder_13 : decode cX6_doOrder 13 = .ok (.iconst 4, 1) := by decide +kernel
theorem dX6_doOrder_14 : decode cX6_doOrder 14 = .ok (.iload_n 1, 1) := by decide +kernel
theorem dX6_doOrder_15 : decode cX6_doOrder 15 = .ok (.imul, 1) := by decide +kernel
theorem dX6_doOrder_16 : decode cX6_doOrder 16 = .ok (.iconst 1, 1) := by decide +kernel
theorem dX6_doOrder_17 : decode cX6_doOrder 17 = .ok (.iadd, 1) := by decide +kernel
theorem dX6_doOrder_18 : decode cX6_doOrder 18 = .ok (.iaload, 1) := by decide +kernel
theorem dX6_doOrder_19 : decode cX6_doOrder 19 = .ok (.istore_n 3, 1) := by decide +kernel
theorem dX6_doOrder_20 : decode cX6_doOrder 20 = .ok (.aload_n 0, 1) := by decide +kernel
theorem dX6_doOrder_21 : decode cX6_doOrder 21 = .ok (.getfield 32, 3) := by decide +kernel
theorem dX6_doOrder_24 : decode cX6_doOrder 24 = .ok (.iload_n 1, 1) := by decide +kernel
theorem dX6_doOrder_25 : decode cX6_doOrder 25 = .ok (.iaload, 1) := by decide +kernel
theorem dX6_doOrder_26 : decode cX6_doOrder 26 = .ok (.lookupswitch 92 #[(99, 84), (101, 76), (112, 49), (115, 42)], 42) := by decide +kernel
theorem dX6_doOrder_68 : decode cX6_doOrder 68 = .ok (.aload_n 0, 1) := by decide +kernel
theorem dX6_doOrder_69 : decode cX6_doOrder 69 = .ok (.iload_n 2, 1) := by decide +kernel
theorem dX6_doOrder_70 : decode cX6_doOrder 70 = .ok (.iload_n 3, 1) := by decide +kernel
theorem dX6_doOrder_71 : decode cX6_doOrder 71 = .ok (.invokevirtual 77, 3) := by decide +kernel
theorem dX6_doOrder_74 : decode cX6_doOrder 74 = .ok (.ireturn, 1) := by decide +kernel
theorem dX6_doOrder_75 : decode cX6_doOrder 75 = .ok (.aload_n 0, 1) := by decide +kernel
theorem dX6_doOrder_76 : decode cX6_doOrder 76 = .ok (.iload_n 2, 1) := by decide +kernel
theorem dX6_doOrder_77 : decode cX6_doOrder 77 = .ok (.iload_n 3, 1) := by decide +kernel
theorem dX6_doOrder_78 : decode cX6_doOrder 78 = .ok (.aload_n 0, 1) := by decide +kernel
theorem dX6_doOrder_79 : decode cX6_doOrder 79 = .ok (.getfield 35, 3) := by decide +kernel
theorem dX6_doOrder_82 : decode cX6_doOrder 82 = .ok (.iconst 4, 1) := by decide +kernel
theorem dX6_doOrder_83 : decode cX6_doOrder 83 = .ok (.iload_n 1, 1) := by decide +kernel
theorem dX6_doOrder_84 : decode cX6_doOrder 84 = .ok (.imul, 1) := by decide +kernel
theorem dX6_doOrder_85 : decode cX6_doOrder 85 = .ok (.iconst 2, 1) := by decide +kernel
theorem dX6_doOrder_86 : decode cX6_doOrder 86 = .ok (.iadd, 1) := by decide +kernel
theorem dX6_doOrder_87 : decode cX6_doOrder 87 = .ok (.iaload, 1) := by decide +kernel
theorem dX6_doOrder_88 : decode cX6_doOrder 88 = .ok (.aload_n 0, 1) := by decide +kernel
theorem dX6_doOrder_89 : decode cX6_doOrder 89 = .ok (.getfield 35, 3) := by decide +kernel
theorem dX6_doOrder_92 : decode cX6_doOrder 92 = .ok (.iconst 4, 1) := by decide +kernel
theorem dX6_doOrder_93 : decode cX6_doOrder 93 = .ok (.iload_n 1, 1) := by decide +kernel
theorem dX6_doOrder_94 : decode cX6_doOrder 94 = .ok (.imul, 1) := by decide +kernel
theorem dX6_doOrder_95 : decode cX6_doOrder 95 = .ok (.iconst 3, 1) := by decide +kernel
theorem dX6_doOrder_96 : decode cX6_doOrder 96 = .ok (.iadd, 1) := by decide +kernel
theorem dX6_doOrder_97 : decode cX6_doOrder 97 = .ok (.iaload, 1) := by decide +kernel
theorem dX6_doOrder_98 : decode cX6_doOrder 98 = .ok (.invokevirtual 87, 3) := by decide +kernel
theorem dX6_doOrder_101 : decode cX6_doOrder 101 = .ok (.ireturn, 1) := by decide +kernel
theorem dX6_doOrder_102 : decode cX6_doOrder 102 = .ok (.aload_n 0, 1) := by decide +kernel
theorem dX6_doOrder_103 : decode cX6_doOrder 103 = .ok (.iconst 1, 1) := by decide +kernel
theorem dX6_doOrder_104 : decode cX6_doOrder 104 = .ok (.iload_n 2, 1) := by decide +kernel
theorem dX6_doOrder_105 : decode cX6_doOrder 105 = .ok (.iload_n 3, 1) := by decide +kernel
theorem dX6_doOrder_106 : decode cX6_doOrder 106 = .ok (.invokevirtual 94, 3) := by decide +kernel
theorem dX6_doOrder_109 : decode cX6_doOrder 109 = .ok (.ireturn, 1) := by decide +kernel
theorem dX6_doOrder_110 : decode cX6_doOrder 110 = .ok (.aload_n 0, 1) := by decide +kernel
theorem dX6_doOrder_111 : decode cX6_doOrder 111 = .ok (.iconst 0, 1) := by decide +kernel
theorem dX6_doOrder_112 : decode cX6_doOrder 112 = .ok (.iload_n 2, 1) := by decide +kernel
theorem dX6_doOrder_113 : decode cX6_doOrder 113 = .ok (.iload_n 3, 1) := by decide +kernel
theorem dX6_doOrder_114 : decode cX6_doOrder 114 = .ok (.invokevirtual 94, 3) := by decide +kernel
theorem dX6_doOrder_117 : decode cX6_doOrder 117 = .ok (.ireturn, 1) := by decide +kernel
theorem dX6_doOrder_118 : decode cX6_doOrder 118 = .ok (.aload_n 0, 1) := by decide +kernel
theorem dX6_doOrder_119 : decode cX6_doOrder 119 = .ok (.iload_n 2, 1) := by decide +kernel
theorem dX6_doOrder_120 : decode cX6_doOrder 120 = .ok (.invokevirtual 91, 3) := by decide +kernel
theorem dX6_doOrder_123 : decode cX6_doOrder 123 = .ok (.ireturn, 1) := by decide +kernel
set_option maxRecDepth 20000 in
theorem ggX6_reads_X6_here : GoodIn wsX6_reads wsX6_here := goodIn_r _ [11, 1, 4, 12, 89, 90, 91, 92, 93, 94, 95, 96, 97, 98, 99, 100, 101, 102, 103] (by decide +kernel) (by decide +kernel)
set_option maxRecDepth 20000 in
theorem gX6_reads_X6_here : GoodIn wsX6_reads (wsV RX6 171 RX6 yX6_here wsX6_here) := goodIn_app (goodIn_of _ (by decide +kernel)) ggX6_reads_X6_here
set_option maxRecDepth 20000 in
theorem ggX6_reads_X6_readOrder : GoodIn wsX6_reads wsX6_readOrder := goodIn_r _ [16, 2, 17, 3, 18, 7, 8, 9, 10, 11, 1, 4, 12, 19, 20, 21, 22, 23, 24, 25, 26, 27, 28, 29, 30, 31, 32, 33, 34, 35, 36, 89, 90, 91, 92, 93, 94, 95, 96, 97, 98, 99, 100, 101, 102, 103] (by decide +kernel) (by decide +kernel)
set_option maxRecDepth 20000 in
theorem gX6_reads_X6_readOrder : GoodIn wsX6_reads (wsV RX6 191 RX6 yX6_readOrder wsX6_readOrder) := goodIn_app (goodIn_of _ (by decide +kernel)) ggX6_reads_X6_readOrder
set_option maxRecDepth 20000 in
theorem ggX6_reads_X6_hold : GoodIn wsX6_reads wsX6_hold := goodIn_r _ [40, 6, 5, 89, 90, 91, 92, 93, 94, 95, 96, 97, 98, 99, 100, 101, 102, 103] (by decide +kernel) (by decide +kernel)
set_option maxRecDepth 20000 in
theorem gX6_reads_X6_hold : GoodIn wsX6_reads (wsV RX6 74 RX6 yX6_hold wsX6_hold) := goodIn_app (goodIn_of _ (by decide +kernel)) ggX6_reads_X6_hold
set_option maxRecDepth 20000 in
theorem ggX6_reads_X6_doOrder : GoodIn wsX6_reads wsX6_doOrder := goodIn_r _ [44, 17, 18, 45, 46, 47, 10, 48, 5, 49, 50, 51, 30, 31, 32, 52, 53, 54, 55, 56, 57, 58, 59, 60, 61, 62, 63, 64, 65, 66, 67, 68, 69, 70, 71, 72, 73, 74, 75, 76, 77, 78, 79, 80, 81, 82, 89, 90, 91, 92, 93, 94, 95, 96, 97, 98, 99, 100, 101, 102, 103] (by decide +kernel) (by decide +kernel)
set_option maxRecDepth 20000 in
theorem gX6_reads_X6_doOrder : GoodIn wsX6_reads (wsV RX6 194 RX6 yX6_doOrder wsX6_doOrder) := goodIn_app (goodIn_of _ (by decide +kernel)) ggX6_reads_X6_doOrder
set_option maxRecDepth 20000 in
theorem ggX6_reads_X6_push : GoodIn wsX6_reads wsX6_push := goodIn_r _ [86, 87, 88, 6, 89, 90, 91, 92, 93, 94, 95, 96, 97, 98, 99, 100, 101, 102, 103] (by decide +kernel) (by decide +kernel)
set_option maxRecDepth 20000 in
theorem gX6_reads_X6_push : GoodIn wsX6_reads (wsV RX6 50 RX6 yX6_push wsX6_push) := goodIn_app (goodIn_of _ (by decide +kernel)) ggX6_reads_X6_push
theorem dX6_reads_0 : decode cX6_reads 0 = .ok (.aload_n 0, 1) := by decide +kernel
theorem dX6_reads_1 : decode cX6_reads 1 = .ok (.iconst 0, 1) := by decide +kernel
theorem dX6_reads_2 : decode cX6_reads 2 = .ok (.putfield 165, 3) := by decide +kernel
theorem dX6_reads_5 : decode cX6_reads 5 = .ok (.aload_n 0, 1) := by decide +kernel
theorem dX6_reads_6 : decode cX6_reads 6 = .ok (.iconst (-1), 1) := by decide +kernel
theorem dX6_reads_7 : decode cX6_reads 7 = .ok (.putfield 168, 3) := by decide +kernel
theorem dX6_reads_10 : decode cX6_reads 10 = .ok (.aload_n 0, 1) := by decide +kernel
theorem dX6_reads_11 : decode cX6_reads 11 = .ok (.iconst 0, 1) := by decide +kernel
theorem dX6_reads_12 : decode cX6_reads 12 = .ok (.putfield 185, 3) := by decide +kernel
theorem dX6_reads_15 : decode cX6_reads 15 = .ok (.aload_n 0, 1) := by decide +kernel
theorem dX6_reads_16 : decode cX6_reads 16 = .ok (.invokevirtual 171, 3) := by decide +kernel
theorem dX6_reads_19 : decode cX6_reads 19 = .ok (.iconst (-1), 1) := by decide +kernel
theorem dX6_reads_20 : decode cX6_reads 20 = .ok (.if_icmp .ne 11, 3) := by decide +kernel
theorem dX6_reads_23 : decode cX6_reads 23 = .ok (.bipush (-10), 2) := by decide +kernel
theorem dX6_reads_25 : decode cX6_reads 25 = .ok (.aload_n 0, 1) := by decide +kernel
theorem dX6_reads_26 : decode cX6_reads 26 = .ok (.getfield 162, 3) := by decide +kernel
theorem dX6_reads_29 : decode cX6_reads 29 = .ok (.isub, 1) := by decide +kernel
theorem dX6_reads_30 : decode cX6_reads 30 = .ok (.ireturn, 1) := by decide +kernel
theorem dX6_reads_31 : decode cX6_reads 31 = .ok (.aload_n 0, 1) := by decide +kernel
theorem dX6_reads_32 : decode cX6_reads 32 = .ok (.getfield 168, 3) := by decide +kernel
theorem dX6_reads_35 : decode cX6_reads 35 = .ok (.iconst (-1), 1) := by decide +kernel
theorem dX6_reads_36 : decode cX6_reads 36 = .ok (.if_icmp .ne 18, 3) := by decide +kernel
theorem dX6_reads_39 : decode cX6_reads 39 = .ok (.aload_n 0, 1) := by decide +kernel
theorem dX6_reads_40 : decode cX6_reads 40 = .ok (.invokevirtual 171, 3) := by decide +kernel
theorem dX6_reads_43 : decode cX6_reads 43 = .ok (.iconst (-1), 1) := by decide +kernel
theorem dX6_reads_44 : decode cX6_reads 44 = .ok (.if_icmp .eq 10, 3) := by decide +kernel
theorem dX6_reads_47 : decode cX6_reads 47 = .ok (.aload_n 0, 1) := by decide +kernel
theorem dX6_reads_48 : decode cX6_reads 48 = .ok (.invokevirtual 191, 3) := by decide +kernel
theorem dX6_reads_51 : decode cX6_reads 51 = .ok (.goto (-20), 3) := by decide +kernel
theorem dX6_reads_54 : decode cX6_reads 54 = .ok (.aload_n 0, 1) := by decide +kernel
theorem dX6_reads_55 : decode cX6_reads 55 = .ok (.getfield 168, 3) := by decide +kernel
theorem dX6_reads_58 : decode cX6_reads 58 = .ok (.iconst (-1), 1) := by decide +kernel
theorem dX6_reads_59 : decode cX6_reads 59 = .ok (.if_icmp .eq 11, 3) := by decide +kernel
theorem dX6_reads_62 : decode cX6_reads 62 = .ok (.bipush (-10), 2) := by decide +kernel
theorem dX6_reads_64 : decode cX6_reads 64 = .ok (.aload_n 0, 1) := by decide +kernel
theorem dX6_reads_65 : decode cX6_reads 65 = .ok (.getfield 168, 3) := by decide +kernel
theorem dX6_reads_68 : decode cX6_reads 68 = .ok (.isub, 1) := by decide +kernel
theorem dX6_reads_69 : decode cX6_reads 69 = .ok (.ireturn, 1) := by decide +kernel
theorem dX6_reads_70 : decode cX6_reads 70 = .ok (.aload_n 0, 1) := by decide +kernel
theorem dX6_reads_71 : decode cX6_reads 71 = .ok (.invokevirtual 74, 3) := by decide +kernel
theorem dX6_reads_74 : decode cX6_reads 74 = .ok (.iconst 0, 1) := by decide +kernel
theorem dX6_reads_75 : decode cX6_reads 75 = .ok (.istore_n 1, 1) := by decide +kernel
theorem dX6_reads_76 : decode cX6_reads 76 = .ok (.iload_n 1, 1) := by decide +kernel
theorem dX6_reads_77 : decode cX6_reads 77 = .ok (.aload_n 0, 1) := by decide +kernel
theorem dX6_reads_78 : decode cX6_reads 78 = .ok (.getfield 185, 3) := by decide +kernel
theorem dX6_reads_81 : decode cX6_reads 81 = .ok (.if_icmp .ge 49, 3) := by decide +kernel
theorem dX6_reads_84 : decode cX6_reads 84 = .ok (.aload_n 0, 1) := by decide +kernel
theorem dX6_reads_85 : decode cX6_reads 85 = .ok (.iload_n 1, 1) := by decide +kernel
theorem dX6_reads_86 : decode cX6_reads 86 = .ok (.invokevirtual 194, 3) := by decide +kernel
theorem dX6_reads_89 : decode cX6_reads 89 = .ok (.ifCond .ge 35, 3) := by decide +kernel
theorem dX6_reads_92 : decode cX6_reads 92 = .ok (.iconst 0, 1) := by decide +kernel
theorem dX6_reads_93 : decode cX6_reads 93 = .ok (.istore_n 2, 1) := by decide +kernel
theorem dX6_reads_94 : decode cX6_reads 94 = .ok (.iload_n 2, 1) := by decide +kernel
theorem dX6_reads_95 : decode cX6_reads 95 = .ok (.bipush 123, 2) := by decide +kernel
theorem dX6_reads_97 : decode cX6_reads 97 = .ok (.if_icmp .ge 21, 3) := by decide +kernel
theorem dX6_reads_100 : decode cX6_reads 100 = .ok (.aload_n 0, 1) := by decide +kernel
theorem dX6_reads_101 : decode cX6_reads 101 = .ok (.getfield 7, 3) := by decide +kernel
theorem dX6_reads_104 : decode cX6_reads 104 = .ok (.iload_n 2, 1) := by decide +kernel
theorem dX6_reads_105 : decode cX6_reads 105 = .ok (.aload_n 0, 1) := by decide +kernel
theorem dX6_reads_106 : decode cX6_reads 106 = .ok (.getfield 13, 3) := by decide +kernel
theorem dX6_reads_109 : decode cX6_reads 109 = .ok (.iload_n 2, 1) := by decide +kernel
theorem dX6_reads_110 : decode cX6_reads 110 = .ok (.iaload, 1) := by decide +kernel
theorem dX6_reads_111 : decode cX6_reads 111 = .ok (.iastore, 1) := by decide +kernel
theorem dX6_reads_112 : decode cX6_reads 112 = .ok (.iinc 2 1, 3) := by decide +kernel
theorem dX6_reads_115 : decode cX6_reads 115 = .ok (.goto (-21), 3) := by decide +kernel
theorem dX6_reads_118 : decode cX6_reads 118 = .ok (.sipush (-1000), 3) := by decide +kernel
theorem dX6_reads_121 : decode cX6_reads 121 = .ok (.iload_n 1, 1) := by decide +kernel
theorem dX6_reads_122 : decode cX6_reads 122 = .ok (.isub, 1) := by decide +kernel
theorem dX6_reads_123 : decode cX6_reads 123 = .ok (.ireturn, 1) := by decide +kernel
theorem dX6_reads_124 : decode cX6_reads 124 = .ok (.iinc 1 1, 3) := by decide +kernel
theorem dX6_reads_127 : decode cX6_reads 127 = .ok (.goto (-51), 3) := by decide +kernel
theorem dX6_reads_130 : decode cX6_reads 130 = .ok (.aload_n 0, 1) := by decide +kernel
theorem dX6_reads_131 : decode cX6_reads 131 = .ok (.invokevirtual 50, 3) := by decide +kernel
theorem dX6_reads_134 : decode cX6_reads 134 = .ok (.aload_n 0, 1) := by decide +kernel
theorem dX6_reads_135 : decode cX6_reads 135 = .ok (.getfield 185, 3) := by decide +kernel
theorem dX6_reads_138 : decode cX6_reads 138 = .ok (.ireturn, 1) := by decide +kernel
theorem dX6_toldOf_0 : decode cX6_toldOf 0 = .ok (.iload_n 1, 1) := by decide +kernel
theorem dX6_toldOf_1 : decode cX6_toldOf 1 = .ok (.iconst 3, 1) := by decide +kernel
theorem dX6_toldOf_2 : decode cX6_toldOf 2 = .ok (.if_icmp .ge 12, 3) := by decide +kernel
theorem dX6_toldOf_5 : decode cX6_toldOf 5 = .ok (.aload_n 0, 1) := by decide +kernel
theorem dX6_toldOf_6 : decode cX6_toldOf 6 = .ok (.getfield 19, 3) := by decide +kernel
theorem dX6_toldOf_9 : decode cX6_toldOf 9 = .ok (.iload_n 1, 1) := by decide +kernel
theorem dX6_toldOf_10 : decode cX6_toldOf 10 = .ok (.iaload, 1) := by decide +kernel
theorem dX6_toldOf_11 : decode cX6_toldOf 11 = .ok (.goto 36, 3) := by decide +kernel
theorem dX6_toldOf_14 : decode cX6_toldOf 14 = .ok (.iload_n 1, 1) := by decide +kernel
theorem dX6_toldOf_15 : decode cX6_toldOf 15 = .ok (.iconst 3, 1) := by decide +kernel
theorem dX6_toldOf_16 : decode cX6_toldOf 16 = .ok (.if_icmp .ne 10, 3) := by decide +kernel
theorem dX6_toldOf_19 : decode cX6_toldOf 19 = .ok (.aload_n 0, 1) := by decide +kernel
theorem dX6_toldOf_20 : decode cX6_toldOf 20 = .ok (.getfield 162, 3) := by decide +kernel
theorem dX6_toldOf_23 : decode cX6_toldOf 23 = .ok (.goto 24, 3) := by decide +kernel
theorem dX6_toldOf_26 : decode cX6_toldOf 26 = .ok (.iload_n 1, 1) := by decide +kernel
theorem dX6_toldOf_27 : decode cX6_toldOf 27 = .ok (.bipush 7, 2) := by decide +kernel
theorem dX6_toldOf_29 : decode cX6_toldOf 29 = .ok (.if_icmp .ge 14, 3) := by decide +kernel
theorem dX6_toldOf_32 : decode cX6_toldOf 32 = .ok (.aload_n 0, 1) := by decide +kernel
theorem dX6_toldOf_33 : decode cX6_toldOf 33 = .ok (.getfield 7, 3) := by decide +kernel
theorem dX6_toldOf_36 : decode cX6_toldOf 36 = .ok (.iload_n 1, 1) := by decide +kernel
theorem dX6_toldOf_37 : decode cX6_toldOf 37 = .ok (.iconst 4, 1) := by decide +kernel
theorem dX6_toldOf_38 : decode cX6_toldOf 38 = .ok (.isub, 1) := by decide +kernel
theorem dX6_toldOf_39 : decode cX6_toldOf 39 = .ok (.iaload, 1) := by decide +kernel
theorem dX6_toldOf_40 : decode cX6_toldOf 40 = .ok (.goto 7, 3) := by decide +kernel
theorem dX6_toldOf_43 : decode cX6_toldOf 43 = .ok (.aload_n 0, 1) := by decide +kernel
theorem dX6_toldOf_44 : decode cX6_toldOf 44 = .ok (.getfield 38, 3) := by decide +kernel
theorem dX6_toldOf_47 : decode cX6_toldOf 47 = .ok (.ireturn, 1) := by decide +kernel
set_option maxRecDepth 20000 in
theorem ggX6_told_X6_in : GoodIn wsX6_told wsX6_in := goodIn_r _ [4] (by decide +kernel) (by decide +kernel)
set_option maxRecDepth 20000 in
theorem gX6_told_X6_in : GoodIn wsX6_told (va_wsS RX6 53 yX6_in wsX6_in) := goodIn_app (goodIn_of _ (by decide +kernel)) ggX6_told_X6_in
set_option maxRecDepth 20000 in
theorem ggX6_told_X6_toldOf : GoodIn wsX6_told wsX6_toldOf := goodIn_r _ [8, 9, 10, 11, 12, 17, 18, 19, 20, 21, 22, 23, 24, 25, 26, 27, 28, 29, 30, 31] (by decide +kernel) (by decide +kernel)
set_option maxRecDepth 20000 in
theorem gX6_told_X6_toldOf : GoodIn wsX6_told (wsV RX6 197 RX6 yX6_toldOf wsX6_toldOf) := goodIn_app (goodIn_of _ (by decide +kernel)) ggX6_told_X6_toldOf
set_option maxRecDepth 20000 in
theorem ggX6_told_X6_refuses : GoodIn wsX6_told wsX6_refuses := goodIn_r _ [16, 9, 17, 18, 19, 20, 21, 22, 23, 24, 25, 26, 27, 28, 29, 30, 31] (by decide +kernel) (by decide +kernel)
set_option maxRecDepth 20000 in
theorem gX6_told_X6_refuses : GoodIn wsX6_told (wsV RX6 46 RX6 yX6_refuses wsX6_refuses) := goodIn_app (goodIn_of _ (by decide +kernel)) ggX6_told_X6_refuses
theorem dX6_told_0 : decode cX6_told 0 = .ok (.iload_n 1, 1) := by decide +kernel
theorem dX6_told_1 : decode cX6_told 1 = .ok (.iconst 0, 1) := by decide +kernel
theorem dX6_told_2 : decode cX6_told 2 = .ok (.bipush 7, 2) := by decide +kernel
theorem dX6_told_4 : decode cX6_told 4 = .ok (.invokestatic 53, 3) := by decide +kernel
theorem dX6_told_7 : decode cX6_told 7 = .ok (.ifCond .eq 11, 3) := by decide +kernel
theorem dX6_told_10 : decode cX6_told 10 = .ok (.aload_n 0, 1) := by decide +kernel
theorem dX6_told_11 : decode cX6_told 11 = .ok (.iload_n 1, 1) := by decide +kernel
theorem dX6_told_12 : decode cX6_told 12 = .ok (.invokevirtual 197, 3) := by decide +kernel
theorem dX6_told_15 : decode cX6_told 15 = .ok (.goto 9, 3) := by decide +kernel
theorem dX6_told_18 : decode cX6_told 18 = .ok (.aload_n 0, 1) := by decide +kernel
theorem dX6_told_19 : decode cX6_told 19 = .ok (.bipush (-2), 2) := by decide +kernel
theorem dX6_told_21 : decode cX6_told 21 = .ok (.invokevirtual 46, 3) := by decide +kernel
theorem dX6_told_24 : decode cX6_told 24 = .ok (.ireturn, 1) := by decide +kernel
theorem dX6_mix_0 : decode cX6_mix 0 = .ok (.aload_n 0, 1) := by decide +kernel
theorem dX6_mix_1 : decode cX6_mix 1 = .ok (.ldc2_w 200, 3) := by decide +kernel
theorem dX6_mix_4 : decode cX6_mix 4 = .ok (.aload_n 0, 1) := by decide +kernel
theorem dX6_mix_5 : decode cX6_mix 5 = .ok (.getfield 202, 3) := by decide +kernel
theorem dX6_mix_8 : decode cX6_mix 8 = .ok (.lmul, 1) := by decide +kernel
theorem dX6_mix_9 : decode cX6_mix 9 = .ok (.lload_n 1, 1) := by decide +kernel
theorem dX6_mix_10 : decode cX6_mix 10 = .ok (.ladd, 1) := by decide +kernel
theorem dX6_mix_11 : decode cX6_mix 11 = .ok (.putfield 202, 3) := by decide +kernel
theorem dX6_mix_14 : decode cX6_mix 14 = .ok (.return_, 1) := by decide +kernel
set_option maxRecDepth 20000 in
theorem ggX6_digest_X6_toldOf : GoodIn wsX6_digest wsX6_toldOf := goodIn_r _ [8, 9, 10, 3, 11, 99, 100, 101, 102, 103, 104, 105, 106, 107, 108, 109, 110, 111, 112, 113] (by decide +kernel) (by decide +kernel)
set_option maxRecDepth 20000 in
theorem gX6_digest_X6_toldOf : GoodIn wsX6_digest (wsV RX6 197 RX6 yX6_toldOf wsX6_toldOf) := goodIn_app (goodIn_of _ (by decide +kernel)) ggX6_digest_X6_toldOf
set_option maxRecDepth 20000 in
theorem ggX6_digest_X6_mix : GoodIn wsX6_digest wsX6_mix := goodIn_r _ [15, 16, 2, 99, 100, 101, 102, 103, 104, 105, 106, 107, 108, 109, 110, 111, 112, 113] (by decide +kernel) (by decide +kernel)
set_option maxRecDepth 20000 in
theorem gX6_digest_X6_mix : GoodIn wsX6_digest (wsV RX6 208 RX6 yX6_mix wsX6_mix) := goodIn_app (goodIn_of _ (by decide +kernel)) ggX6_digest_X6_mix
set_option maxRecDepth 20000 in
theorem ggX6_digest_X6_ofShaft : GoodIn wsX6_digest wsX6_ofShaft := goodIn_r _ [20, 3, 21, 22, 23, 7, 24, 25, 26, 27, 28, 29, 30, 31, 32, 33, 34, 35, 36, 37, 38, 39, 99, 100, 101, 102, 103, 104, 105, 106, 107, 108, 109, 110, 111, 112, 113] (by decide +kernel) (by decide +kernel)
set_option maxRecDepth 20000 in
theorem gX6_digest_X6_ofShaft : GoodIn wsX6_digest (wsV RX6 107 RX6 yX6_ofShaft wsX6_ofShaft) := goodIn_app (goodIn_of _ (by decide +kernel)) ggX6_digest_X6_ofShaft
set_option maxRecDepth 20000 in
theorem ggX6_digest_X6_whenOf : GoodIn wsX6_digest wsX6_whenOf := goodIn_r _ [43, 44, 45, 46, 7, 47, 3, 48, 49, 50, 51, 52, 53, 54, 55, 56, 21, 22, 23, 24, 57, 58, 59, 60, 61, 62, 63, 32, 33, 34, 35, 64, 65, 66, 67, 36, 37, 38, 39, 68, 69, 70, 99, 100, 101, 102, 103, 104, 105, 106, 107, 108, 109, 110, 111, 112, 113] (by decide +kernel) (by decide +kernel)
set_option maxRecDepth 20000 in
theorem gX6_digest_X6_whenOf : GoodIn wsX6_digest (wsV RX6 141 RX6 yX6_whenOf wsX6_whenOf) := goodIn_app (goodIn_of _ (by decide +kernel)) ggX6_digest_X6_whenOf
set_option maxRecDepth 20000 in
theorem ggX6_digest_X6_pipeOf : GoodIn wsX6_digest wsX6_pipeOf := goodIn_r _ [24, 3, 99, 100, 101, 102, 103, 104, 105, 106, 107, 108, 109, 110, 111, 112, 113] (by decide +kernel) (by decide +kernel)
set_option maxRecDepth 20000 in
theorem gX6_digest_X6_pipeOf : GoodIn wsX6_digest (wsV RX6 57 RX6 yX6_pipeOf wsX6_pipeOf) := goodIn_app (goodIn_of _ (by decide +kernel)) ggX6_digest_X6_pipeOf
set_option maxRecDepth 20000 in
theorem ggX6_digest_X6_comesOf : GoodIn wsX6_digest wsX6_comesOf := goodIn_r _ [74, 48, 49, 50, 51, 7, 52, 3, 53, 54, 55, 56, 21, 22, 23, 24, 57, 58, 59, 60, 61, 62, 63, 32, 33, 34, 35, 64, 65, 66, 67, 36, 37, 38, 39, 99, 100, 101, 102, 103, 104, 105, 106, 107, 108, 109, 110, 111, 112, 113] (by decide +kernel) (by decide +kernel)
set_option maxRecDepth 20000 in
theorem gX6_digest_X6_comesOf : GoodIn wsX6_digest (wsV RX6 130 RX6 yX6_comesOf wsX6_comesOf) := goodIn_app (goodIn_of _ (by decide +kernel)) ggX6_digest_X6_comesOf
set_option maxRecDepth 20000 in
theorem ggX6_digest_X6_nextOf : GoodIn wsX6_digest wsX6_nextOf := goodIn_r _ [78, 3, 79, 80, 81, 7, 82, 40, 41, 42, 43, 44, 45, 46, 47, 48, 49, 50, 51, 52, 53, 54, 55, 56, 21, 22, 23, 24, 57, 58, 59, 60, 61, 62, 63, 32, 33, 34, 35, 64, 65, 66, 67, 36, 37, 38, 39, 68, 69, 70, 29, 30, 31, 25, 26, 27, 28, 83, 84, 85, 99, 100, 101, 102, 103, 104, 105, 106, 107, 108, 109, 110, 111, 112, 113] (by decide +kernel) (by decide +kernel)
set_option maxRecDepth 20000 in
theorem gX6_digest_X6_nextOf : GoodIn wsX6_digest (wsV RX6 150 RX6 yX6_nextOf wsX6_nextOf) := goodIn_app (goodIn_of _ (by decide +kernel)) ggX6_digest_X6_nextOf
set_option maxRecDepth 20000 in
theorem ggX6_digest_X6_sensorsOf : GoodIn wsX6_digest wsX6_sensorsOf := goodIn_r _ [89, 3, 90, 91, 92, 7, 93, 94, 25, 26, 27, 28, 21, 22, 23, 24, 29, 30, 31, 83, 84, 85, 95, 96, 97, 98, 99, 100, 101, 102, 103, 104, 105, 106, 107, 108, 109, 110, 111, 112, 113] (by decide +kernel) (by decide +kernel)
set_option maxRecDepth 20000 in
theorem gX6_digest_X6_sensorsOf : GoodIn wsX6_digest (wsV RX6 159 RX6 yX6_sensorsOf wsX6_sensorsOf) := goodIn_app (goodIn_of _ (by decide +kernel)) ggX6_digest_X6_sensorsOf
theorem dX6_digest_0 : decode cX6_digest 0 = .ok (.aload_n 0, 1) := by decide +kernel
theorem dX6_digest_1 : decode cX6_digest 1 = .ok (.ldc2_w 206, 3) := by decide +kernel
theorem dX6_digest_4 : decode cX6_digest 4 = .ok (.putfield 202, 3) := by decide +kernel
theorem dX6_digest_7 : decode cX6_digest 7 = .ok (.iconst 0, 1) := by decide +kernel
theorem dX6_digest_8 : decode cX6_digest 8 = .ok (.istore_n 1, 1) := by decide +kernel
theorem dX6_digest_9 : decode cX6_digest 9 = .ok (.iload_n 1, 1) := by decide +kernel
theorem dX6_digest_10 : decode cX6_digest 10 = .ok (.bipush 8, 2) := by decide +kernel
theorem dX6_digest_12 : decode cX6_digest 12 = .ok (.if_icmp .ge 19, 3) := by decide +kernel
theorem dX6_digest_15 : decode cX6_digest 15 = .ok (.aload_n 0, 1) := by decide +kernel
theorem dX6_digest_16 : decode cX6_digest 16 = .ok (.aload_n 0, 1) := by decide +kernel
theorem dX6_digest_17 : decode cX6_digest 17 = .ok (.iload_n 1, 1) := by decide +kernel
theorem dX6_digest_18 : decode cX6_digest 18 = .ok (.invokevirtual 197, 3) := by decide +kernel
theorem dX6_digest_21 : decode cX6_digest 21 = .ok (.i2l, 1) := by decide +kernel
theorem dX6_digest_22 : decode cX6_digest 22 = .ok (.invokevirtual 208, 3) := by decide +kernel
theorem dX6_digest_25 : decode cX6_digest 25 = .ok (.iinc 1 1, 3) := by decide +kernel
theorem dX6_digest_28 : decode cX6_digest 28 = .ok (.goto (-19), 3) := by decide +kernel
theorem dX6_digest_31 : decode cX6_digest 31 = .ok (.aload_n 0, 1) := by decide +kernel
theorem dX6_digest_32 : decode cX6_digest 32 = .ok (.getfield 7, 3) := by decide +kernel
theorem dX6_digest_35 : decode cX6_digest 35 = .ok (.iconst 0, 1) := by decide +kernel
theorem dX6_digest_36 : decode cX6_digest 36 = .ok (.iaload, 1) := by decide +kernel
theorem dX6_digest_37 : decode cX6_digest 37 = .ok (.istore_n 1, 1) := by decide +kernel
theorem dX6_digest_38 : decode cX6_digest 38 = .ok (.iconst 0, 1) := by decide +kernel
theorem dX6_digest_39 : decode cX6_digest 39 = .ok (.istore_n 2, 1) := by decide +kernel
theorem dX6_digest_40 : decode cX6_digest 40 = .ok (.iload_n 2, 1) := by decide +kernel
theorem dX6_digest_41 : decode cX6_digest 41 = .ok (.iload_n 1, 1) := by decide +kernel
theorem dX6_digest_42 : decode cX6_digest 42 = .ok (.if_icmp .ge 44, 3) := by decide +kernel
theorem dX6_digest_45 : decode cX6_digest 45 = .ok (.iconst 0, 1) := by decide +kernel
theorem dX6_digest_46 : decode cX6_digest 46 = .ok (.istore_n 3, 1) := by decide +kernel
theorem dX6_digest_47 : decode cX6_digest 47 = .ok (.iload_n 3, 1) := by decide +kernel
theorem dX6_digest_48 : decode cX6_digest 48 = .ok (.bipush 6, 2) := by decide +kernel
theorem dX6_digest_50 : decode cX6_digest 50 = .ok (.if_icmp .ge 20, 3) := by decide +kernel
theorem dX6_digest_53 : decode cX6_digest 53 = .ok (.aload_n 0, 1) := by decide +kernel
theorem dX6_digest_54 : decode cX6_digest 54 = .ok (.aload_n 0, 1) := by decide +kernel
theorem dX6_digest_55 : decode cX6_digest 55 = .ok (.iload_n 2, 1) := by decide +kernel
theorem dX6_digest_56 : decode cX6_digest 56 = .ok (.iload_n 3, 1) := by decide +kernel
theorem dX6_digest_57 : decode cX6_digest 57 = .ok (.invokevirtual 107, 3) := by decide +kernel
theorem dX6_digest_60 : decode cX6_digest 60 = .ok (.i2l, 1) := by decide +kernel
theorem dX6_digest_61 : decode cX6_digest 61 = .ok (.invokevirtual 208, 3) := by decide +kernel
theorem dX6_digest_64 : decode cX6_digest 64 = .ok (.iinc 3 1, 3) := by decide +kernel
theorem dX6_digest_67 : decode cX6_digest 67 = .ok (.goto (-20), 3) := by decide +kernel
theorem dX6_digest_70 : decode cX6_digest 70 = .ok (.aload_n 0, 1) := by decide +kernel
theorem dX6_digest_71 : decode cX6_digest 71 = .ok (.aload_n 0, 1) := by decide +kernel
theorem dX6_digest_72 : decode cX6_digest 72 = .ok (.iload_n 2, 1) := by decide +kernel
theorem dX6_digest_73 : decode cX6_digest 73 = .ok (.invokevirtual 141, 3) := by decide +kernel
theorem dX6_digest_76 : decode cX6_digest 76 = .ok (.i2l, 1) := by decide +kernel
theorem dX6_digest_77 : decode cX6_digest 77 = .ok (.invokevirtual 208, 3) := by decide +kernel
theorem dX6_digest_80 : decode cX6_digest 80 = .ok (.iinc 2 1, 3) := by decide +kernel
theorem dX6_digest_83 : decode cX6_digest 83 = .ok (.goto (-43), 3) := by decide +kernel
theorem dX6_digest_86 : decode cX6_digest 86 = .ok (.iconst 0, 1) := by decide +kernel
theorem dX6_digest_87 : decode cX6_digest 87 = .ok (.istore_n 2, 1) := by decide +kernel
theorem dX6_digest_88 : decode cX6_digest 88 = .ok (.iload_n 2, 1) := by decide +kernel
theorem dX6_digest_89 : decode cX6_digest 89 = .ok (.iconst 4, 1) := by decide +kernel
theorem dX6_digest_90 : decode cX6_digest 90 = .ok (.aload_n 0, 1) := by decide +kernel
theorem dX6_digest_91 : decode cX6_digest 91 = .ok (.getfield 7, 3) := by decide +kernel
theorem dX6_digest_94 : decode cX6_digest 94 = .ok (.iconst 1, 1) := by decide +kernel
theorem dX6_digest_95 : decode cX6_digest 95 = .ok (.iaload, 1) := by decide +kernel
theorem dX6_digest_96 : decode cX6_digest 96 = .ok (.imul, 1) := by decide +kernel
theorem dX6_digest_97 : decode cX6_digest 97 = .ok (.if_icmp .ge 24, 3) := by decide +kernel
theorem dX6_digest_100 : decode cX6_digest 100 = .ok (.aload_n 0, 1) := by decide +kernel
theorem dX6_digest_101 : decode cX6_digest 101 = .ok (.aload_n 0, 1) := by decide +kernel
theorem dX6_digest_102 : decode cX6_digest 102 = .ok (.iload_n 2, 1) := by decide +kernel
theorem dX6_digest_103 : decode cX6_digest 103 = .ok (.iconst 4, 1) := by decide +kernel
theorem dX6_digest_104 : decode cX6_digest 104 = .ok (.idiv, 1) := by decide +kernel
theorem dX6_digest_105 : decode cX6_digest 105 = .ok (.iload_n 2, 1) := by decide +kernel
theorem dX6_digest_106 : decode cX6_digest 106 = .ok (.iconst 4, 1) := by decide +kernel
theorem dX6_digest_107 : decode cX6_digest 107 = .ok (.irem, 1) := by decide +kernel
theorem dX6_digest_108 : decode cX6_digest 108 = .ok (.invokevirtual 57, 3) := by decide +kernel
theorem dX6_digest_111 : decode cX6_digest 111 = .ok (.i2l, 1) := by decide +kernel
theorem dX6_digest_112 : decode cX6_digest 112 = .ok (.invokevirtual 208, 3) := by decide +kernel
theorem dX6_digest_115 : decode cX6_digest 115 = .ok (.iinc 2 1, 3) := by decide +kernel
theorem dX6_digest_118 : decode cX6_digest 118 = .ok (.goto (-30), 3) := by decide +kernel
theorem dX6_digest_121 : decode cX6_digest 121 = .ok (.iconst 0, 1) := by decide +kernel
theorem dX6_digest_122 : decode cX6_digest 122 = .ok (.istore_n 2, 1) := by decide +kernel
theorem dX6_digest_123 : decode cX6_digest 123 = .ok (.iload_n 2, 1) := by decide +kernel
theorem dX6_digest_124 : decode cX6_digest 124 = .ok (.iload_n 1, 1) := by decide +kernel
theorem dX6_digest_125 : decode cX6_digest 125 = .ok (.if_icmp .ge 33, 3) := by decide +kernel
theorem dX6_digest_128 : decode cX6_digest 128 = .ok (.iconst 0, 1) := by decide +kernel
theorem dX6_digest_129 : decode cX6_digest 129 = .ok (.istore_n 3, 1) := by decide +kernel
theorem dX6_digest_130 : decode cX6_digest 130 = .ok (.iload_n 3, 1) := by decide +kernel
theorem dX6_digest_131 : decode cX6_digest 131 = .ok (.iload_n 1, 1) := by decide +kernel
theorem dX6_digest_132 : decode cX6_digest 132 = .ok (.if_icmp .ge 20, 3) := by decide +kernel
theorem dX6_digest_135 : decode cX6_digest 135 = .ok (.aload_n 0, 1) := by decide +kernel
theorem dX6_digest_136 : decode cX6_digest 136 = .ok (.aload_n 0, 1) := by decide +kernel
theorem dX6_digest_137 : decode cX6_digest 137 = .ok (.iload_n 3, 1) := by decide +kernel
theorem dX6_digest_138 : decode cX6_digest 138 = .ok (.iconst 5, 1) := by decide +kernel
theorem dX6_digest_139 : decode cX6_digest 139 = .ok (.iload_n 2, 1) := by decide +kernel
theorem dX6_digest_140 : decode cX6_digest 140 = .ok (.invokevirtual 130, 3) := by decide +kernel
theorem dX6_digest_143 : decode cX6_digest 143 = .ok (.invokevirtual 208, 3) := by decide +kernel
theorem dX6_digest_146 : decode cX6_digest 146 = .ok (.iinc 3 1, 3) := by decide +kernel
theorem dX6_digest_149 : decode cX6_digest 149 = .ok (.goto (-19), 3) := by decide +kernel
theorem dX6_digest_152 : decode cX6_digest 152 = .ok (.iinc 2 1, 3) := by decide +kernel
theorem dX6_digest_155 : decode cX6_digest 155 = .ok (.goto (-32), 3) := by decide +kernel
theorem dX6_digest_158 : decode cX6_digest 158 = .ok (.aload_n 0, 1) := by decide +kernel
theorem dX6_digest_159 : decode cX6_digest 159 = .ok (.aload_n 0, 1) := by decide +kernel
theorem dX6_digest_160 : decode cX6_digest 160 = .ok (.iconst 0, 1) := by decide +kernel
theorem dX6_digest_161 : decode cX6_digest 161 = .ok (.invokevirtual 150, 3) := by decide +kernel
theorem dX6_digest_164 : decode cX6_digest 164 = .ok (.i2l, 1) := by decide +kernel
theorem dX6_digest_165 : decode cX6_digest 165 = .ok (.invokevirtual 208, 3) := by decide +kernel
theorem dX6_digest_168 : decode cX6_digest 168 = .ok (.aload_n 0, 1) := by decide +kernel
theorem dX6_digest_169 : decode cX6_digest 169 = .ok (.aload_n 0, 1) := by decide +kernel
theorem dX6_digest_170 : decode cX6_digest 170 = .ok (.iconst 1, 1) := by decide +kernel
theorem dX6_digest_171 : decode cX6_digest 171 = .ok (.invokevirtual 150, 3) := by decide +kernel
theorem dX6_digest_174 : decode cX6_digest 174 = .ok (.i2l, 1) := by decide +kernel
theorem dX6_digest_175 : decode cX6_digest 175 = .ok (.invokevirtual 208, 3) := by decide +kernel
theorem dX6_digest_178 : decode cX6_digest 178 = .ok (.aload_n 0, 1) := by decide +kernel
theorem dX6_digest_179 : decode cX6_digest 179 = .ok (.aload_n 0, 1) := by decide +kernel
theorem dX6_digest_180 : decode cX6_digest 180 = .ok (.iconst 0, 1) := by decide +kernel
theorem dX6_digest_181 : decode cX6_digest 181 = .ok (.invokevirtual 159, 3) := by decide +kernel
theorem dX6_digest_184 : decode cX6_digest 184 = .ok (.i2l, 1) := by decide +kernel
theorem dX6_digest_185 : decode cX6_digest 185 = .ok (.invokevirtual 208, 3) := by decide +kernel
theorem dX6_digest_188 : decode cX6_digest 188 = .ok (.aload_n 0, 1) := by decide +kernel
theorem dX6_digest_189 : decode cX6_digest 189 = .ok (.getfield 202, 3) := by decide +kernel
theorem dX6_digest_192 : decode cX6_digest 192 = .ok (.lreturn, 1) := by decide +kernel
