theorem dX0_init_0 : decode cX0_init 0 = .ok (.aload_n 0, 1) := by decide +kernel
theorem dX0_init_1 : decode cX0_init 1 = .ok (.invokespecial 3, 3) := by decide +kernel
theorem dX0_init_4 : decode cX0_init 4 = .ok (.aload_n 0, 1) := by decide +kernel
theorem dX0_init_5 : decode cX0_init 5 = .ok (.bipush 8, 2) := by decide +kernel
theorem dX0_init_7 : decode cX0_init 7 = .ok (.newarray .int, 2) := by decide +kernel
theorem dX0_init_9 : decode cX0_init 9 = .ok (.putfield 9, 3) := by decide +kernel
theorem dX0_init_12 : decode cX0_init 12 = .ok (.aload_n 0, 1) := by decide +kernel
theorem dX0_init_13 : decode cX0_init 13 = .ok (.bipush 8, 2) := by decide +kernel
theorem dX0_init_15 : decode cX0_init 15 = .ok (.newarray .int, 2) := by decide +kernel
theorem dX0_init_17 : decode cX0_init 17 = .ok (.putfield 15, 3) := by decide +kernel
theorem dX0_init_20 : decode cX0_init 20 = .ok (.aload_n 0, 1) := by decide +kernel
theorem dX0_init_21 : decode cX0_init 21 = .ok (.bipush 8, 2) := by decide +kernel
theorem dX0_init_23 : decode cX0_init 23 = .ok (.newarray .int, 2) := by decide +kernel
theorem dX0_init_25 : decode cX0_init 25 = .ok (.putfield 18, 3) := by decide +kernel
theorem dX0_init_28 : decode cX0_init 28 = .ok (.aload_n 0, 1) := by decide +kernel
theorem dX0_init_29 : decode cX0_init 29 = .ok (.iconst 0, 1) := by decide +kernel
theorem dX0_init_30 : decode cX0_init 30 = .ok (.putfield 21, 3) := by decide +kernel
theorem dX0_init_33 : decode cX0_init 33 = .ok (.return_, 1) := by decide +kernel
theorem dX0_copyFrom_0 : decode cX0_copyFrom 0 = .ok (.aload_n 1, 1) := by decide +kernel
theorem dX0_copyFrom_1 : decode cX0_copyFrom 1 = .ok (.getfield 9, 3) := by decide +kernel
theorem dX0_copyFrom_4 : decode cX0_copyFrom 4 = .ok (.iconst 0, 1) := by decide +kernel
theorem dX0_copyFrom_5 : decode cX0_copyFrom 5 = .ok (.aload_n 0, 1) := by decide +kernel
theorem dX0_copyFrom_6 : decode cX0_copyFrom 6 = .ok (.getfield 9, 3) := by decide +kernel
theorem dX0_copyFrom_9 : decode cX0_copyFrom 9 = .ok (.iconst 0, 1) := by decide +kernel
theorem dX0_copyFrom_10 : decode cX0_copyFrom 10 = .ok (.bipush 8, 2) := by decide +kernel
theorem dX0_copyFrom_12 : decode cX0_copyFrom 12 = .ok (.invokestatic 25, 3) := by decide +kernel
theorem dX0_copyFrom_15 : decode cX0_copyFrom 15 = .ok (.aload_n 1, 1) := by decide +kernel
theorem dX0_copyFrom_16 : decode cX0_copyFrom 16 = .ok (.getfield 15, 3) := by decide +kernel
theorem dX0_copyFrom_19 : decode cX0_copyFrom 19 = .ok (.iconst 0, 1) := by decide +kernel
theorem dX0_copyFrom_20 : decode cX0_copyFrom 20 = .ok (.aload_n 0, 1) := by decide +kernel
theorem dX0_copyFrom_21 : decode cX0_copyFrom 21 = .ok (.getfield 15, 3) := by decide +kernel
theorem dX0_copyFrom_24 : decode cX0_copyFrom 24 = .ok (.iconst 0, 1) := by decide +kernel
theorem dX0_copyFrom_25 : decode cX0_copyFrom 25 = .ok (.bipush 8, 2) := by decide +kernel
theorem dX0_copyFrom_27 : decode cX0_copyFrom 27 = .ok (.invokestatic 25, 3) := by decide +kernel
theorem dX0_copyFrom_30 : decode cX0_copyFrom 30 = .ok (.aload_n 1, 1) := by decide +kernel
theorem dX0_copyFrom_31 : decode cX0_copyFrom 31 = .ok (.getfield 18, 3) := by decide +kernel
theorem dX0_copyFrom_34 : decode cX0_copyFrom 34 = .ok (.iconst 0, 1) := by decide +kernel
theorem dX0_copyFrom_35 : decode cX0_copyFrom 35 = .ok (.aload_n 0, 1) := by decide +kernel
theorem dX0_copyFrom_36 : decode cX0_copyFrom 36 = .ok (.getfield 18, 3) := by decide +kernel
theorem dX0_copyFrom_39 : decode cX0_copyFrom 39 = .ok (.iconst 0, 1) := by decide +kernel
theorem dX0_copyFrom_40 : decode cX0_copyFrom 40 = .ok (.bipush 8, 2) := by decide +kernel
theorem dX0_copyFrom_42 : decode cX0_copyFrom 42 = .ok (.invokestatic 25, 3) := by decide +kernel
theorem dX0_copyFrom_45 : decode cX0_copyFrom 45 = .ok (.aload_n 0, 1) := by decide +kernel
theorem dX0_copyFrom_46 : decode cX0_copyFrom 46 = .ok (.aload_n 1, 1) := by decide +kernel
theorem dX0_copyFrom_47 : decode cX0_copyFrom 47 = .ok (.getfield 21, 3) := by decide +kernel
theorem dX0_copyFrom_50 : decode cX0_copyFrom 50 = .ok (.putfield 21, 3) := by decide +kernel
theorem dX0_copyFrom_53 : decode cX0_copyFrom 53 = .ok (.return_, 1) := by decide +kernel
theorem dX0_add_0 : decode cX0_add 0 = .ok (.bipush 7, 2) := by decide +kernel
theorem dX0_add_2 : decode cX0_add 2 = .ok (.istore 4, 2) := by decide +kernel
theorem dX0_add_4 : decode cX0_add 4 = .ok (.iload 4, 2) := by decide +kernel
theorem dX0_add_6 : decode cX0_add 6 = .ok (.ifCond .le 57, 3) := by decide +kernel
theorem dX0_add_9 : decode cX0_add 9 = .ok (.aload_n 0, 1) := by decide +kernel
theorem dX0_add_10 : decode cX0_add 10 = .ok (.getfield 9, 3) := by decide +kernel
theorem dX0_add_13 : decode cX0_add 13 = .ok (.iload 4, 2) := by decide +kernel
theorem dX0_add_15 : decode cX0_add 15 = .ok (.aload_n 0, 1) := by decide +kernel
theorem dX0_add_16 : decode cX0_add 16 = .ok (.getfield 9, 3) := by decide +kernel
theorem dX0_add_19 : decode cX0_add 19 = .ok (.iload 4, 2) := by decide +kernel
theorem dX0_add_21 : decode cX0_add 21 = .ok (.iconst 1, 1) := by decide +kernel
theorem dX0_add_22 : decode cX0_add 22 = .ok (.isub, 1) := by decide +kernel
theorem dX0_add_23 : decode cX0_add 23 = .ok (.iaload, 1) := by decide +kernel
theorem dX0_add_24 : decode cX0_add 24 = .ok (.iastore, 1) := by decide +kernel
theorem dX0_add_25 : decode cX0_add 25 = .ok (.aload_n 0, 1) := by decide +kernel
theorem dX0_add_26 : decode cX0_add 26 = .ok (.getfield 15, 3) := by decide +kernel
theorem dX0_add_29 : decode cX0_add 29 = .ok (.iload 4, 2) := by decide +kernel
theorem dX0_add_31 : decode cX0_add 31 = .ok (.aload_n 0, 1) := by decide +kernel
theorem dX0_add_32 : decode cX0_add 32 = .ok (.getfield 15, 3) := by decide +kernel
theorem dX0_add_35 : decode cX0_add 35 = .ok (.iload 4, 2) := by decide +kernel
theorem dX0_add_37 : decode cX0_add 37 = .ok (.iconst 1, 1) := by decide +kernel
theorem dX0_add_38 : decode cX0_add 38 = .ok (.isub, 1) := by decide +kernel
theorem dX0_add_39 : decode cX0_add 39 = .ok (.iaload, 1) := by decide +kernel
theorem dX0_add_40 : decode cX0_add 40 = .ok (.iastore, 1) := by decide +kernel
theorem dX0_add_41 : decode cX0_add 41 = .ok (.aload_n 0, 1) := by decide +kernel
theorem dX0_add_42 : decode cX0_add 42 = .ok (.getfield 18, 3) := by decide +kernel
theorem dX0_add_45 : decode cX0_add 45 = .ok (.iload 4, 2) := by decide +kernel
theorem dX0_add_47 : decode cX0_add 47 = .ok (.aload_n 0, 1) := by decide +kernel
theorem dX0_add_48 : decode cX0_add 48 = .ok (.getfield 18, 3) := by decide +kernel
theorem dX0_add_51 : decode cX0_add 51 = .ok (.iload 4, 2) := by decide +kernel
theorem dX0_add_53 : decode cX0_add 53 = .ok (.iconst 1, 1) := by decide +kernel
theorem dX0_add_54 : decode cX0_add 54 = .ok (.isub, 1) := by decide +kernel
theorem dX0_add_55 : decode cX0_add 55 = .ok (.iaload, 1) := by decide +kernel
theorem dX0_add_56 : decode cX0_add 56 = .ok (.iastore, 1) := by decide +kernel
theorem dX0_add_57 : decode cX0_add 57 = .ok (.iinc 4 (-1), 3) := by decide +kernel
theorem dX0_add_60 : decode cX0_add 60 = .ok (.goto (-56), 3) := by decide +kernel
theorem dX0_add_63 : decode cX0_add 63 = .ok (.aload_n 0, 1) := by decide +kernel
theorem dX0_add_64 : decode cX0_add 64 = .ok (.getfield 9, 3) := by decide +kernel
theorem dX0_add_67 : decode cX0_add 67 = .ok (.iconst 0, 1) := by decide +kernel
theorem dX0_add_68 : decode cX0_add 68 = .ok (.iload_n 1, 1) := by decide +kernel
theorem dX0_add_69 : decode cX0_add 69 = .ok (.iastore, 1) := by decide +kernel
theorem dX0_add_70 : decode cX0_add 70 = .ok (.aload_n 0, 1) := by decide +kernel
theorem dX0_add_71 : decode cX0_add 71 = .ok (.getfield 15, 3) := by decide +kernel
theorem dX0_add_74 : decode cX0_add 74 = .ok (.iconst 0, 1) := by decide +kernel
theorem dX0_add_75 : decode cX0_add 75 = .ok (.iload_n 2, 1) := by decide +kernel
theorem dX0_add_76 : decode cX0_add 76 = .ok (.iastore, 1) := by decide +kernel
theorem dX0_add_77 : decode cX0_add 77 = .ok (.aload_n 0, 1) := by decide +kernel
theorem dX0_add_78 : decode cX0_add 78 = .ok (.getfield 18, 3) := by decide +kernel
theorem dX0_add_81 : decode cX0_add 81 = .ok (.iconst 0, 1) := by decide +kernel
theorem dX0_add_82 : decode cX0_add 82 = .ok (.iload_n 3, 1) := by decide +kernel
theorem dX0_add_83 : decode cX0_add 83 = .ok (.iastore, 1) := by decide +kernel
theorem dX0_add_84 : decode cX0_add 84 = .ok (.aload_n 0, 1) := by decide +kernel
theorem dX0_add_85 : decode cX0_add 85 = .ok (.aload_n 0, 1) := by decide +kernel
theorem dX0_add_86 : decode cX0_add 86 = .ok (.getfield 21, 3) := by decide +kernel
theorem dX0_add_89 : decode cX0_add 89 = .ok (.iconst 1, 1) := by decide +kernel
theorem dX0_add_90 : decode cX0_add 90 = .ok (.iadd, 1) := by decide +kernel
theorem dX0_add_91 : decode cX0_add 91 = .ok (.bipush 8, 2) := by decide +kernel
theorem dX0_add_93 : decode cX0_add 93 = .ok (.invokestatic 31, 3) := by decide +kernel
theorem dX0_add_96 : decode cX0_add 96 = .ok (.putfield 21, 3) := by decide +kernel
theorem dX0_add_99 : decode cX0_add 99 = .ok (.return_, 1) := by decide +kernel
theorem dX0_errorOf_0 : decode cX0_errorOf 0 = .ok (.bipush 16, 2) := by decide +kernel
theorem dX0_errorOf_2 : decode cX0_errorOf 2 = .ok (.aload_n 0, 1) := by decide +kernel
theorem dX0_errorOf_3 : decode cX0_errorOf 3 = .ok (.getfield 18, 3) := by decide +kernel
theorem dX0_errorOf_6 : decode cX0_errorOf 6 = .ok (.iload_n 1, 1) := by decide +kernel
theorem dX0_errorOf_7 : decode cX0_errorOf 7 = .ok (.iaload, 1) := by decide +kernel
theorem dX0_errorOf_8 : decode cX0_errorOf 8 = .ok (.imul, 1) := by decide +kernel
theorem dX0_errorOf_9 : decode cX0_errorOf 9 = .ok (.aload_n 0, 1) := by decide +kernel
theorem dX0_errorOf_10 : decode cX0_errorOf 10 = .ok (.getfield 9, 3) := by decide +kernel
theorem dX0_errorOf_13 : decode cX0_errorOf 13 = .ok (.iload_n 1, 1) := by decide +kernel
theorem dX0_errorOf_14 : decode cX0_errorOf 14 = .ok (.iaload, 1) := by decide +kernel
theorem dX0_errorOf_15 : decode cX0_errorOf 15 = .ok (.isub, 1) := by decide +kernel
theorem dX0_errorOf_16 : decode cX0_errorOf 16 = .ok (.ireturn, 1) := by decide +kernel
set_option maxRecDepth 20000 in
theorem ggX0_errorSum_X0_errorOf : GoodIn wsX0_errorSum wsX0_errorOf := goodIn_r _ [6, 7, 8, 9, 10, 11, 12] (by decide +kernel) (by decide +kernel)
set_option maxRecDepth 20000 in
theorem gX0_errorSum_X0_errorOf : GoodIn wsX0_errorSum (wsV RX0 37 RX0 yX0_errorOf wsX0_errorOf) := goodIn_app (goodIn_of _ (by decide +kernel)) ggX0_errorSum_X0_errorOf
theorem dX0_errorSum_0 : decode cX0_errorSum 0 = .ok (.iconst 0, 1) := by decide +kernel
theorem dX0_errorSum_1 : decode cX0_errorSum 1 = .ok (.istore_n 1, 1) := by decide +kernel
theorem dX0_errorSum_2 : decode cX0_errorSum 2 = .ok (.iconst 0, 1) := by decide +kernel
theorem dX0_errorSum_3 : decode cX0_errorSum 3 = .ok (.istore_n 2, 1) := by decide +kernel
theorem dX0_errorSum_4 : decode cX0_errorSum 4 = .ok (.iload_n 2, 1) := by decide +kernel
theorem dX0_errorSum_5 : decode cX0_errorSum 5 = .ok (.aload_n 0, 1) := by decide +kernel
theorem dX0_errorSum_6 : decode cX0_errorSum 6 = .ok (.getfield 21, 3) := by decide +kernel
theorem dX0_errorSum_9 : decode cX0_errorSum 9 = .ok (.if_icmp .ge 17, 3) := by decide +kernel
theorem dX0_errorSum_12 : decode cX0_errorSum 12 = .ok (.iload_n 1, 1) := by decide +kernel
theorem dX0_errorSum_13 : decode cX0_errorSum 13 = .ok (.aload_n 0, 1) := by decide +kernel
theorem dX0_errorSum_14 : decode cX0_errorSum 14 = .ok (.iload_n 2, 1) := by decide +kernel
theorem dX0_errorSum_15 : decode cX0_errorSum 15 = .ok (.invokevirtual 37, 3) := by decide +kernel
theorem dX0_errorSum_18 : decode cX0_errorSum 18 = .ok (.iadd, 1) := by decide +kernel
theorem dX0_errorSum_19 : decode cX0_errorSum 19 = .ok (.istore_n 1, 1) := by decide +kernel
theorem dX0_errorSum_20 : decode cX0_errorSum 20 = .ok (.iinc 2 1, 3) := by decide +kernel
theorem dX0_errorSum_23 : decode cX0_errorSum 23 = .ok (.goto (-19), 3) := by decide +kernel
theorem dX0_errorSum_26 : decode cX0_errorSum 26 = .ok (.iload_n 1, 1) := by decide +kernel
theorem dX0_errorSum_27 : decode cX0_errorSum 27 = .ok (.ireturn, 1) := by decide +kernel
set_option maxRecDepth 20000 in
theorem ggX1_init_X2_init : GoodIn wsX1_init wsX2_init := goodIn_r _ [11, 12, 2, 3, 13, 14, 15, 16, 17, 18, 19, 20, 21, 22, 23, 24, 25, 26, 27, 28, 29, 30, 31, 32, 33, 34, 35, 36, 37, 38, 39, 40, 41, 42, 43, 44, 48, 49, 50, 51, 52, 53, 54, 55, 56, 57, 58, 59, 60] (by decide +kernel) (by decide +kernel)
set_option maxRecDepth 20000 in
theorem gX1_init_X2_init_n24 : GoodIn wsX1_init (wsX2_init) := ggX1_init_X2_init
theorem dX1_init_0 : decode cX1_init 0 = .ok (.aload_n 0, 1) := by decide +kernel
theorem dX1_init_1 : decode cX1_init 1 = .ok (.invokespecial 3, 3) := by decide +kernel
theorem dX1_init_4 : decode cX1_init 4 = .ok (.aload_n 0, 1) := by decide +kernel
theorem dX1_init_5 : decode cX1_init 5 = .ok (.bipush 6, 2) := by decide +kernel
theorem dX1_init_7 : decode cX1_init 7 = .ok (.anewarray 9, 3) := by decide +kernel
theorem dX1_init_10 : decode cX1_init 10 = .ok (.putfield 11, 3) := by decide +kernel
theorem dX1_init_13 : decode cX1_init 13 = .ok (.aload_n 0, 1) := by decide +kernel
theorem dX1_init_14 : decode cX1_init 14 = .ok (.iconst 0, 1) := by decide +kernel
theorem dX1_init_15 : decode cX1_init 15 = .ok (.putfield 17, 3) := by decide +kernel
theorem dX1_init_18 : decode cX1_init 18 = .ok (.aload_n 0, 1) := by decide +kernel
theorem dX1_init_19 : decode cX1_init 19 = .ok (.iconst 0, 1) := by decide +kernel
theorem dX1_init_20 : decode cX1_init 20 = .ok (.putfield 21, 3) := by decide +kernel
theorem dX1_init_23 : decode cX1_init 23 = .ok (.iconst 0, 1) := by decide +kernel
theorem dX1_init_24 : decode cX1_init 24 = .ok (.istore_n 1, 1) := by decide +kernel
theorem dX1_init_25 : decode cX1_init 25 = .ok (.iload_n 1, 1) := by decide +kernel
theorem dX1_init_26 : decode cX1_init 26 = .ok (.bipush 6, 2) := by decide +kernel
theorem dX1_init_28 : decode cX1_init 28 = .ok (.if_icmp .ge 22, 3) := by decide +kernel
theorem dX1_init_31 : decode cX1_init 31 = .ok (.aload_n 0, 1) := by decide +kernel
theorem dX1_init_32 : decode cX1_init 32 = .ok (.getfield 11, 3) := by decide +kernel
theorem dX1_init_35 : decode cX1_init 35 = .ok (.iload_n 1, 1) := by decide +kernel
theorem dX1_init_36 : decode cX1_init 36 = .ok (.new 9, 3) := by decide +kernel
theorem dX1_init_39 : decode cX1_init 39 = .ok (.dup, 1) := by decide +kernel
theorem dX1_init_40 : decode cX1_init 40 = .ok (.invokespecial 24, 3) := by decide +kernel
theorem dX1_init_43 : decode cX1_init 43 = .ok (.aastore, 1) := by decide +kernel
theorem dX1_init_44 : decode cX1_init 44 = .ok (.iinc 1 1, 3) := by decide +kernel
theorem dX1_init_47 : decode cX1_init 47 = .ok (.goto (-22), 3) := by decide +kernel
theorem dX1_init_50 : decode cX1_init 50 = .ok (.return_, 1) := by decide +kernel
set_option maxRecDepth 20000 in
theorem ggX1_push_X2_copyFrom : GoodIn wsX1_push wsX2_copyFrom := goodIn_r _ [12, 13, 14, 15, 16, 17, 18, 19, 20, 21, 22, 23, 24, 25, 26, 27, 28, 29, 30, 31, 32, 33, 34, 35, 36, 37, 38, 39, 40, 44, 45, 46, 47, 48, 49, 50, 51, 52, 53, 54, 55, 56] (by decide +kernel) (by decide +kernel)
set_option maxRecDepth 20000 in
theorem gX1_push_X2_copyFrom : GoodIn wsX1_push (wsV RX1 25 RX2 yX2_copyFrom wsX2_copyFrom) := goodIn_app (goodIn_of _ (by decide +kernel)) ggX1_push_X2_copyFrom
theorem dX1_push_0 : decode cX1_push 0 = .ok (.aload_n 0, 1) := by decide +kernel
theorem dX1_push_1 : decode cX1_push 1 = .ok (.getfield 11, 3) := by decide +kernel
theorem dX1_push_4 : decode cX1_push 4 = .ok (.aload_n 0, 1) := by decide +kernel
theorem dX1_push_5 : decode cX1_push 5 = .ok (.getfield 17, 3) := by decide +kernel
theorem dX1_push_8 : decode cX1_push 8 = .ok (.aaload, 1) := by decide +kernel
theorem dX1_push_9 : decode cX1_push 9 = .ok (.aload_n 1, 1) := by decide +kernel
theorem dX1_push_10 : decode cX1_push 10 = .ok (.invokevirtual 25, 3) := by decide +kernel
theorem dX1_push_13 : decode cX1_push 13 = .ok (.aload_n 0, 1) := by decide +kernel
theorem dX1_push_14 : decode cX1_push 14 = .ok (.aload_n 0, 1) := by decide +kernel
theorem dX1_push_15 : decode cX1_push 15 = .ok (.getfield 17, 3) := by decide +kernel
theorem dX1_push_18 : decode cX1_push 18 = .ok (.iconst 5, 1) := by decide +kernel
theorem dX1_push_19 : decode cX1_push 19 = .ok (.if_icmp .ne 7, 3) := by decide +kernel
theorem dX1_push_22 : decode cX1_push 22 = .ok (.iconst 0, 1) := by decide +kernel
theorem dX1_push_23 : decode cX1_push 23 = .ok (.goto 9, 3) := by decide +kernel
theorem dX1_push_26 : decode cX1_push 26 = .ok (.aload_n 0, 1) := by decide +kernel
theorem dX1_push_27 : decode cX1_push 27 = .ok (.getfield 17, 3) := by decide +kernel
theorem dX1_push_30 : decode cX1_push 30 = .ok (.iconst 1, 1) := by decide +kernel
theorem dX1_push_31 : decode cX1_push 31 = .ok (.iadd, 1) := by decide +kernel
theorem dX1_push_32 : decode cX1_push 32 = .ok (.putfield 17, 3) := by decide +kernel
theorem dX1_push_35 : decode cX1_push 35 = .ok (.aload_n 0, 1) := by decide +kernel
theorem dX1_push_36 : decode cX1_push 36 = .ok (.aload_n 0, 1) := by decide +kernel
theorem dX1_push_37 : decode cX1_push 37 = .ok (.getfield 21, 3) := by decide +kernel
theorem dX1_push_40 : decode cX1_push 40 = .ok (.iconst 1, 1) := by decide +kernel
theorem dX1_push_41 : decode cX1_push 41 = .ok (.iadd, 1) := by decide +kernel
theorem dX1_push_42 : decode cX1_push 42 = .ok (.bipush 6, 2) := by decide +kernel
theorem dX1_push_44 : decode cX1_push 44 = .ok (.invokestatic 29, 3) := by decide +kernel
theorem dX1_push_47 : decode cX1_push 47 = .ok (.putfield 21, 3) := by decide +kernel
theorem dX1_push_50 : decode cX1_push 50 = .ok (.return_, 1) := by decide +kernel
set_option maxRecDepth 20000 in
theorem ggX1_pop_X2_copyFrom : GoodIn wsX1_pop wsX2_copyFrom := goodIn_r _ [8, 9, 10, 11, 12, 13, 14, 15, 16, 17, 18, 19, 20, 21, 22, 23, 24, 25, 26, 27, 28, 29, 30, 31, 32, 33, 34, 35, 36, 40, 41, 42, 43, 44, 45, 46, 47, 48, 49, 50, 51, 52] (by decide +kernel) (by decide +kernel)
set_option maxRecDepth 20000 in
theorem gX1_pop_X2_copyFrom : GoodIn wsX1_pop (wsV RX1 25 RX2 yX2_copyFrom wsX2_copyFrom) := goodIn_app (goodIn_of _ (by decide +kernel)) ggX1_pop_X2_copyFrom
theorem dX1_pop_0 : decode cX1_pop 0 = .ok (.aload_n 0, 1) := by decide +kernel
theorem dX1_pop_1 : decode cX1_pop 1 = .ok (.aload_n 0, 1) := by decide +kernel
theorem dX1_pop_2 : decode cX1_pop 2 = .ok (.getfield 17, 3) := by decide +kernel
theorem dX1_pop_5 : decode cX1_pop 5 = .ok (.ifCond .ne 7, 3) := by decide +kernel
theorem dX1_pop_8 : decode cX1_pop 8 = .ok (.iconst 5, 1) := by decide +kernel
theorem dX1_pop_9 : decode cX1_pop 9 = .ok (.goto 9, 3) := by decide +kernel
theorem dX1_pop_12 : decode cX1_pop 12 = .ok (.aload_n 0, 1) := by decide +kernel
theorem dX1_pop_13 : decode cX1_pop 13 = .ok (.getfield 17, 3) := by decide +kernel
theorem dX1_pop_16 : decode cX1_pop 16 = .ok (.iconst 1, 1) := by decide +kernel
theorem dX1_pop_17 : decode cX1_pop 17 = .ok (.isub, 1) := by decide +kernel
theorem dX1_pop_18 : decode cX1_pop 18 = .ok (.putfield 17, 3) := by decide +kernel
theorem dX1_pop_21 : decode cX1_pop 21 = .ok (.aload_n 1, 1) := by decide +kernel
theorem dX1_pop_22 : decode cX1_pop 22 = .ok (.aload_n 0, 1) := by decide +kernel
theorem dX1_pop_23 : decode cX1_pop 23 = .ok (.getfield 11, 3) := by decide +kernel
theorem dX1_pop_26 : decode cX1_pop 26 = .ok (.aload_n 0, 1) := by decide +kernel
theorem dX1_pop_27 : decode cX1_pop 27 = .ok (.getfield 17, 3) := by decide +kernel
theorem dX1_pop_30 : decode cX1_pop 30 = .ok (.aaload, 1) := by decide +kernel
theorem dX1_pop_31 : decode cX1_pop 31 = .ok (.invokevirtual 25, 3) := by decide +kernel
theorem dX1_pop_34 : decode cX1_pop 34 = .ok (.aload_n 0, 1) := by decide +kernel
theorem dX1_pop_35 : decode cX1_pop 35 = .ok (.dup, 1) := by decide +kernel
theorem dX1_pop_36 : decode cX1_pop 36 = .ok (.getfield 21, 3) := by decide +kernel
theorem dX1_pop_39 : decode cX1_pop 39 = .ok (.iconst 1, 1) := by decide +kernel
theorem dX1_pop_40 : decode cX1_pop 40 = .ok (.isub, 1) := by decide +kernel
theorem dX1_pop_41 : decode cX1_pop 41 = .ok (.putfield 21, 3) := by decide +kernel
theorem dX1_pop_44 : decode cX1_pop 44 = .ok (.return_, 1) := by decide +kernel
set_option maxRecDepth 20000 in
theorem ggX2_init_X6_init : GoodIn wsX2_init wsX6_init := goodIn_r _ [19, 20, 2, 3, 21, 22, 23, 24, 25, 26, 27, 28, 43, 44] (by decide +kernel) (by decide +kernel)
set_option maxRecDepth 20000 in
theorem gX2_init_X6_init : GoodIn wsX2_init (wsX6_init) := ggX2_init_X6_init
set_option maxRecDepth 20000 in
theorem ggX2_init_X0_init : GoodIn wsX2_init wsX0_init := goodIn_r _ [30, 31, 2, 3, 21, 32, 33, 34, 35, 45, 46, 47, 48] (by decide +kernel) (by decide +kernel)
set_option maxRecDepth 20000 in
theorem gX2_init_X0_init_n34 : GoodIn wsX2_init (wsX0_init) := ggX2_init_X0_init
theorem dX2_init_0 : decode cX2_init 0 = .ok (.aload_n 0, 1) := by decide +kernel
theorem dX2_init_1 : decode cX2_init 1 = .ok (.invokespecial 1, 3) := by decide +kernel
theorem dX2_init_4 : decode cX2_init 4 = .ok (.aload_n 0, 1) := by decide +kernel
theorem dX2_init_5 : decode cX2_init 5 = .ok (.iconst 0, 1) := by decide +kernel
theorem dX2_init_6 : decode cX2_init 6 = .ok (.putfield 7, 3) := by decide +kernel
theorem dX2_init_9 : decode cX2_init 9 = .ok (.aload_n 0, 1) := by decide +kernel
theorem dX2_init_10 : decode cX2_init 10 = .ok (.bipush 8, 2) := by decide +kernel
theorem dX2_init_12 : decode cX2_init 12 = .ok (.putfield 13, 3) := by decide +kernel
theorem dX2_init_15 : decode cX2_init 15 = .ok (.aload_n 0, 1) := by decide +kernel
theorem dX2_init_16 : decode cX2_init 16 = .ok (.iconst 0, 1) := by decide +kernel
theorem dX2_init_17 : decode cX2_init 17 = .ok (.putfield 16, 3) := by decide +kernel
theorem dX2_init_20 : decode cX2_init 20 = .ok (.aload_n 0, 1) := by decide +kernel
theorem dX2_init_21 : decode cX2_init 21 = .ok (.iconst 0, 1) := by decide +kernel
theorem dX2_init_22 : decode cX2_init 22 = .ok (.putfield 19, 3) := by decide +kernel
theorem dX2_init_25 : decode cX2_init 25 = .ok (.aload_n 0, 1) := by decide +kernel
theorem dX2_init_26 : decode cX2_init 26 = .ok (.iconst 0, 1) := by decide +kernel
theorem dX2_init_27 : decode cX2_init 27 = .ok (.putfield 22, 3) := by decide +kernel
theorem dX2_init_30 : decode cX2_init 30 = .ok (.aload_n 0, 1) := by decide +kernel
theorem dX2_init_31 : decode cX2_init 31 = .ok (.new 25, 3) := by decide +kernel
theorem dX2_init_34 : decode cX2_init 34 = .ok (.dup, 1) := by decide +kernel
theorem dX2_init_35 : decode cX2_init 35 = .ok (.invokespecial 27, 3) := by decide +kernel
theorem dX2_init_38 : decode cX2_init 38 = .ok (.putfield 28, 3) := by decide +kernel
theorem dX2_init_41 : decode cX2_init 41 = .ok (.aload_n 0, 1) := by decide +kernel
theorem dX2_init_42 : decode cX2_init 42 = .ok (.new 32, 3) := by decide +kernel
theorem dX2_init_45 : decode cX2_init 45 = .ok (.dup, 1) := by decide +kernel
theorem dX2_init_46 : decode cX2_init 46 = .ok (.invokespecial 34, 3) := by decide +kernel
theorem dX2_init_49 : decode cX2_init 49 = .ok (.putfield 35, 3) := by decide +kernel
theorem dX2_init_52 : decode cX2_init 52 = .ok (.return_, 1) := by decide +kernel
set_option maxRecDepth 20000 in
theorem ggX2_copyFrom_X6_copyFrom : GoodIn wsX2_copyFrom wsX6_copyFrom := goodIn_r _ [12, 13, 14, 15, 16, 17, 18, 36, 37] (by decide +kernel) (by decide +kernel)
set_option maxRecDepth 20000 in
theorem gX2_copyFrom_X6_copyFrom : GoodIn wsX2_copyFrom (wsV RX2 39 RX6 yX6_copyFrom wsX6_copyFrom) := goodIn_app (goodIn_of _ (by decide +kernel)) ggX2_copyFrom_X6_copyFrom
set_option maxRecDepth 20000 in
theorem ggX2_copyFrom_X0_copyFrom : GoodIn wsX2_copyFrom wsX0_copyFrom := goodIn_r _ [23, 24, 25, 15, 16, 17, 26, 27, 28, 38, 39, 40, 41] (by decide +kernel) (by decide +kernel)
set_option maxRecDepth 20000 in
theorem gX2_copyFrom_X0_copyFrom : GoodIn wsX2_copyFrom (wsV RX2 43 RX0 yX0_copyFrom wsX0_copyFrom) := goodIn_app (goodIn_of _ (by decide +kernel)) ggX2_copyFrom_X0_copyFrom
theorem dX2_copyFrom_0 : decode cX2_copyFrom 0 = .ok (.aload_n 0, 1) := by decide +kernel
theorem dX2_copyFrom_1 : decode cX2_copyFrom 1 = .ok (.aload_n 1, 1) := by decide +kernel
theorem dX2_copyFrom_2 : decode cX2_copyFrom 2 = .ok (.getfield 7, 3) := by decide +kernel
theorem dX2_copyFrom_5 : decode cX2_copyFrom 5 = .ok (.putfield 7, 3) := by decide +kernel
theorem dX2_copyFrom_8 : decode cX2_copyFrom 8 = .ok (.aload_n 0, 1) := by decide +kernel
theorem dX2_copyFrom_9 : decode cX2_copyFrom 9 = .ok (.aload_n 1, 1) := by decide +kernel
theorem dX2_copyFrom_10 : decode cX2_copyFrom 10 = .ok (.getfield 13, 3) := by decide +kernel
theorem dX2_copyFrom_13 : decode cX2_copyFrom 13 = .ok (.putfield 13, 3) := by decide +kernel
theorem dX2_copyFrom_16 : decode cX2_copyFrom 16 = .ok (.aload_n 0, 1) := by decide +kernel
theorem dX2_copyFrom_17 : decode cX2_copyFrom 17 = .ok (.aload_n 1, 1) := by decide +kernel
theorem dX2_copyFrom_18 : decode cX2_copyFrom 18 = .ok (.getfield 16, 3) := by decide +kernel
theorem dX2_copyFrom_21 : decode cX2_copyFrom 21 = .ok (.putfield 16, 3) := by decide +kernel
theorem dX2_copyFrom_24 : decode cX2_copyFrom 24 = .ok (.aload_n 0, 1) := by decide +kernel
theorem dX2_copyFrom_25 : decode cX2_copyFrom 25 = .ok (.aload_n 1, 1) := by decide +kernel
theorem dX2_copyFrom_26 : decode cX2_copyFrom 26 = .ok (.getfield 19, 3) := by decide +kernel
theorem dX2_copyFrom_29 : decode cX2_copyFrom 29 = .ok (.putfield 19, 3) := by decide +kernel
theorem dX2_copyFrom_32 : decode cX2_copyFrom 32 = .ok (.aload_n 0, 1) := by decide +kernel
theorem dX2_copyFrom_33 : decode cX2_copyFrom 33 = .ok (.aload_n 1, 1) := by decide +kernel
theorem dX2_copyFrom_34 : decode cX2_copyFrom 34 = .ok (.getfield 22, 3) := by decide +kernel
theorem dX2_copyFrom_37 : decode cX2_copyFrom 37 = .ok (.putfield 22, 3) := by decide +kernel
theorem dX2_copyFrom_40 : decode cX2_copyFrom 40 = .ok (.aload_n 0, 1) := by decide +kernel
theorem dX2_copyFrom_41 : decode cX2_copyFrom 41 = .ok (.getfield 28, 3) := by decide +kernel
theorem dX2_copyFrom_44 : decode cX2_copyFrom 44 = .ok (.aload_n 1, 1) := by decide +kernel
theorem dX2_copyFrom_45 : decode cX2_copyFrom 45 = .ok (.getfield 28, 3) := by decide +kernel
theorem dX2_copyFrom_48 : decode cX2_copyFrom 48 = .ok (.invokevirtual 39, 3) := by decide +kernel
theorem dX2_copyFrom_51 : decode cX2_copyFrom 51 = .ok (.aload_n 0, 1) := by decide +kernel
theorem dX2_copyFrom_52 : decode cX2_copyFrom 52 = .ok (.getfield 35, 3) := by decide +kernel
theorem dX2_copyFrom_55 : decode cX2_copyFrom 55 = .ok (.aload_n 1, 1) := by decide +kernel
theorem dX2_copyFrom_56 : decode cX2_copyFrom 56 = .ok (.getfield 35, 3) := by decide +kernel
theorem dX2_copyFrom_59 : decode cX2_copyFrom 59 = .ok (.invokevirtual 43, 3) := by decide +kernel
theorem dX2_copyFrom_62 : decode cX2_copyFrom 62 = .ok (.return_, 1) := by decide +kernel
theorem dX3_init_0 : decode cX3_init 0 = .ok (.aload_n 0, 1) := by decide +kernel
theorem dX3_init_1 : decode cX3_init 1 = .ok (.invokespecial 5, 3) := by decide +kernel
theorem dX3_init_4 : decode cX3_init 4 = .ok (.aload_n 0, 1) := by decide +kernel
theorem dX3_init_5 : decode cX3_init 5 = .ok (.bipush 64, 2) := by decide +kernel
theorem dX3_init_7 : decode cX3_init 7 = .ok (.newarray .long, 2) := by decide +kernel
theorem dX3_init_9 : decode cX3_init 9 = .ok (.putfield 11, 3) := by decide +kernel
theorem dX3_init_12 : decode cX3_init 12 = .ok (.return_, 1) := by decide +kernel
set_option maxRecDepth 20000 in
theorem ggX3_fill_X3_addShifted : GoodIn wsX3_fill wsX3_addShifted := goodIn_r _ [8, 1, 9] (by decide +kernel) (by decide +kernel)
set_option maxRecDepth 20000 in
theorem gX3_fill_X3_addShifted : GoodIn wsX3_fill (wsV RX3 25 RX3 yX3_addShifted wsX3_addShifted) := goodIn_app (goodIn_of _ (by decide +kernel)) ggX3_fill_X3_addShifted
theorem dX3_fill_0 : decode cX3_fill 0 = .ok (.iconst 0, 1) := by decide +kernel
theorem dX3_fill_1 : decode cX3_fill 1 = .ok (.istore_n 2, 1) := by decide +kernel
theorem dX3_fill_2 : decode cX3_fill 2 = .ok (.iload_n 2, 1) := by decide +kernel
theorem dX3_fill_3 : decode cX3_fill 3 = .ok (.bipush 64, 2) := by decide +kernel
theorem dX3_fill_5 : decode cX3_fill 5 = .ok (.if_icmp .ge 16, 3) := by decide +kernel
theorem dX3_fill_8 : decode cX3_fill 8 = .ok (.aload_n 0, 1) := by decide +kernel
theorem dX3_fill_9 : decode cX3_fill 9 = .ok (.getfield 11, 3) := by decide +kernel
theorem dX3_fill_12 : decode cX3_fill 12 = .ok (.iload_n 2, 1) := by decide +kernel
theorem dX3_fill_13 : decode cX3_fill 13 = .ok (.lconst 0, 1) := by decide +kernel
theorem dX3_fill_14 : decode cX3_fill 14 = .ok (.lastore, 1) := by decide +kernel
theorem dX3_fill_15 : decode cX3_fill 15 = .ok (.iinc 2 1, 3) := by decide +kernel
theorem dX3_fill_18 : decode cX3_fill 18 = .ok (.goto (-16), 3) := by decide +kernel
theorem dX3_fill_21 : decode cX3_fill 21 = .ok (.aload_n 0, 1) := by decide +kernel
theorem dX3_fill_22 : decode cX3_fill 22 = .ok (.getfield 11, 3) := by decide +kernel
theorem dX3_fill_25 : decode cX3_fill 25 = .ok (.iconst 0, 1) := by decide +kernel
theorem dX3_fill_26 : decode cX3_fill 26 = .ok (.lconst 1, 1) := by decide +kernel
theorem dX3_fill_27 : decode cX3_fill 27 = .ok (.lastore, 1) := by decide +kernel
theorem dX3_fill_28 : decode cX3_fill 28 = .ok (.iconst 0, 1) := by decide +kernel
theorem dX3_fill_29 : decode cX3_fill 29 = .ok (.istore_n 2, 1) := by decide +kernel
theorem dX3_fill_30 : decode cX3_fill 30 = .ok (.iload_n 2, 1) := by decide +kernel
theorem dX3_fill_31 : decode cX3_fill 31 = .ok (.aload_n 1, 1) := by decide +kernel
theorem dX3_fill_32 : decode cX3_fill 32 = .ok (.getfield 15, 3) := by decide +kernel
theorem dX3_fill_35 : decode cX3_fill 35 = .ok (.if_icmp .ge 19, 3) := by decide +kernel
theorem dX3_fill_38 : decode cX3_fill 38 = .ok (.aload_n 0, 1) := by decide +kernel
theorem dX3_fill_39 : decode cX3_fill 39 = .ok (.aload_n 1, 1) := by decide +kernel
theorem dX3_fill_40 : decode cX3_fill 40 = .ok (.getfield 21, 3) := by decide +kernel
theorem dX3_fill_43 : decode cX3_fill 43 = .ok (.iload_n 2, 1) := by decide +kernel
theorem dX3_fill_44 : decode cX3_fill 44 = .ok (.iaload, 1) := by decide +kernel
theorem dX3_fill_45 : decode cX3_fill 45 = .ok (.invokevirtual 25, 3) := by decide +kernel
theorem dX3_fill_48 : decode cX3_fill 48 = .ok (.iinc 2 1, 3) := by decide +kernel
theorem dX3_fill_51 : decode cX3_fill 51 = .ok (.goto (-21), 3) := by decide +kernel
theorem dX3_fill_54 : decode cX3_fill 54 = .ok (.return_, 1) := by decide +kernel
theorem dX3_addShifted_0 : decode cX3_addShifted 0 = .ok (.iload_n 1, 1) := by decide +kernel
theorem dX3_addShifted_1 : decode cX3_addShifted 1 = .ok (.bipush 64, 2) := by decide +kernel
theorem dX3_addShifted_3 : decode cX3_addShifted 3 = .ok (.idiv, 1) := by decide +kernel
theorem dX3_addShifted_4 : decode cX3_addShifted 4 = .ok (.istore_n 2, 1) := by decide +kernel
theorem dX3_addShifted_5 : decode cX3_addShifted 5 = .ok (.iload_n 1, 1) := by decide +kernel
theorem dX3_addShifted_6 : decode cX3_addShifted 6 = .ok (.bipush 64, 2) := by decide +kernel
theorem dX3_addShifted_8 : decode cX3_addShifted 8 = .ok (.irem, 1) := by decide +kernel
theorem dX3_addShifted_9 : decode cX3_addShifted 9 = .ok (.istore_n 3, 1) := by decide +kernel
theorem dX3_addShifted_10 : decode cX3_addShifted 10 = .ok (.bipush 63, 2) := by decide +kernel
theorem dX3_addShifted_12 : decode cX3_addShifted 12 = .ok (.istore 4, 2) := by decide +kernel
theorem dX3_addShifted_14 : decode cX3_addShifted 14 = .ok (.iload 4, 2) := by decide +kernel
theorem dX3_addShifted_16 : decode cX3_addShifted 16 = .ok (.iload_n 2, 1) := by decide +kernel
theorem dX3_addShifted_17 : decode cX3_addShifted 17 = .ok (.if_icmp .lt 65, 3) := by decide +kernel
theorem dX3_addShifted_20 : decode cX3_addShifted 20 = .ok (.aload_n 0, 1) := by decide +kernel
theorem dX3_addShifted_21 : decode cX3_addShifted 21 = .ok (.getfield 11, 3) := by decide +kernel
theorem dX3_addShifted_24 : decode cX3_addShifted 24 = .ok (.iload 4, 2) := by decide +kernel
theorem dX3_addShifted_26 : decode cX3_addShifted 26 = .ok (.iload_n 2, 1) := by decide +kernel
theorem dX3_addShifted_27 : decode cX3_addShifted 27 = .ok (.isub, 1) := by decide +kernel
theorem dX3_addShifted_28 : decode cX3_addShifted 28 = .ok (.laload, 1) := by decide +kernel
theorem dX3_addShifted_29 : decode cX3_addShifted 29 = .ok (.iload_n 3, 1) := by decide +kernel
theorem dX3_addShifted_30 : decode cX3_addShifted 30 = .ok (.lshl, 1) := by decide +kernel
theorem dX3_addShifted_31 : decode cX3_addShifted 31 = .ok (.lstore 5, 2) := by decide +kernel
theorem dX3_addShifted_33 : decode cX3_addShifted 33 = .ok (.iload_n 3, 1) := by decide +kernel
theorem dX3_addShifted_34 : decode cX3_addShifted 34 = .ok (.ifCond .le 30, 3) := by decide +kernel
theorem dX3_addShifted_37 : decode cX3_addShifted 37 = .ok (.iload 4, 2) := by decide +kernel
theorem dX3_addShifted_39 : decode cX3_addShifted 39 = .ok (.iload_n 2, 1) := by decide +kernel
theorem dX3_addShifted_40 : decode cX3_addShifted 40 = .ok (.if_icmp .le 24, 3) := by decide +kernel
theorem dX3_addShifted_43 : decode cX3_addShifted 43 = .ok (.lload 5, 2) := by decide +kernel
theorem dX3_addShifted_45 : decode cX3_addShifted 45 = .ok (.aload_n 0, 1) := by decide +kernel
theorem dX3_addShifted_46 : decode cX3_addShifted 46 = .ok (.getfield 11, 3) := by decide +kernel
theorem dX3_addShifted_49 : decode cX3_addShifted 49 = .ok (.iload 4, 2) := by decide +kernel
theorem dX3_addShifted_51 : decode cX3_addShifted 51 = .ok (.iload_n 2, 1) := by decide +kernel
theorem dX3_addShifted_52 : decode cX3_addShifted 52 = .ok (.isub, 1) := by decide +kernel
theorem dX3_addShifted_53 : decode cX3_addShifted 53 = .ok (.iconst 1, 1) := by decide +kernel
theorem dX3_addShifted_54 : decode cX3_addShifted 54 = .ok (.isub, 1) := by decide +kernel
theorem dX3_addShifted_55 : decode cX3_addShifted 55 = .ok (.laload, 1) := by decide +kernel
theorem dX3_addShifted_56 : decode cX3_addShifted 56 = .ok (.bipush 64, 2) := by decide +kernel
theorem dX3_addShifted_58 : decode cX3_addShifted 58 = .ok (.iload_n 3, 1) := by decide +kernel
theorem dX3_addShifted_59 : decode cX3_addShifted 59 = .ok (.isub, 1) := by decide +kernel
theorem dX3_addShifted_60 : decode cX3_addShifted 60 = .ok (.lushr, 1) := by decide +kernel
theorem dX3_addShifted_61 : decode cX3_addShifted 61 = .ok (.lor, 1) := by decide +kernel
theorem dX3_addShifted_62 : decode cX3_addShifted 62 = .ok (.lstore 5, 2) := by decide +kernel
theorem dX3_addShifted_64 : decode cX3_addShifted 64 = .ok (.aload_n 0, 1) := by decide +kernel
theorem dX3_addShifted_65 : decode cX3_addShifted 65 = .ok (.getfield 11, 3) := by decide +kernel
theorem dX3_addShifted_68 : decode cX3_addShifted 68 = .ok (.iload 4, 2) := by decide +kernel
theorem dX3_addShifted_70 : decode cX3_addShifted 70 = .ok (.dup2, 1) := by decide +kernel
theorem dX3_addShifted_71 : decode cX3_addShifted 71 = .ok (.laload, 1) := by decide +kernel
theorem dX3_addShifted_72 : decode cX3_addShifted 72 = .ok (.lload 5, 2) := by decide +kernel
theorem dX3_addShifted_74 : decode cX3_addShifted 74 = .ok (.lor, 1) := by decide +kernel
theorem dX3_addShifted_75 : decode cX3_addShifted 75 = .ok (.lastore, 1) := by decide +kernel
theorem dX3_addShifted_76 : decode cX3_addShifted 76 = .ok (.iinc 4 (-1), 3) := by decide +kernel
theorem dX3_addShifted_79 : decode cX3_addShifted 79 = .ok (.goto (-65), 3) := by decide +kernel
theorem dX3_addShifted_82 : decode cX3_addShifted 82 = .ok (.return_, 1) := by decide +kernel
set_option maxRecDepth 20000 in
theorem ggX3_count_J13_bitCount_95d88 : GoodIn wsX3_count wsJ13_bitCount_95d88 := goodIn_r _ [5, 6, 7, 8] (by decide +kernel) (by decide +kernel)
set_option maxRecDepth 20000 in
theorem gX3_count_J13_bitCount_95d88 : GoodIn wsX3_count (va_wsS RX3 29 yJ13_bitCount_95d88 wsJ13_bitCount_95d88) := goodIn_app (goodIn_of _ (by decide +kernel)) ggX3_count_J13_bitCount_95d88
theorem dX3_count_0 : decode cX3_count 0 = .ok (.iconst 0, 1) := by decide +kernel
theorem dX3_count_1 : decode cX3_count 1 = .ok (.istore_n 1, 1) := by decide +kernel
theorem dX3_count_2 : decode cX3_count 2 = .ok (.iconst 0, 1) := by decide +kernel
theorem dX3_count_3 : decode cX3_count 3 = .ok (.istore_n 2, 1) := by decide +kernel
theorem dX3_count_4 : decode cX3_count 4 = .ok (.iload_n 2, 1) := by decide +kernel
theorem dX3_count_5 : decode cX3_count 5 = .ok (.bipush 64, 2) := by decide +kernel
theorem dX3_count_7 : decode cX3_count 7 = .ok (.if_icmp .ge 21, 3) := by decide +kernel
theorem dX3_count_10 : decode cX3_count 10 = .ok (.iload_n 1, 1) := by decide +kernel
theorem dX3_count_11 : decode cX3_count 11 = .ok (.aload_n 0, 1) := by decide +kernel
theorem dX3_count_12 : decode cX3_count 12 = .ok (.getfield 11, 3) := by decide +kernel
theorem dX3_count_15 : decode cX3_count 15 = .ok (.iload_n 2, 1) := by decide +kernel
theorem dX3_count_16 : decode cX3_count 16 = .ok (.laload, 1) := by decide +kernel
theorem dX3_count_17 : decode cX3_count 17 = .ok (.invokestatic 29, 3) := by decide +kernel
theorem dX3_count_20 : decode cX3_count 20 = .ok (.iadd, 1) := by decide +kernel
theorem dX3_count_21 : decode cX3_count 21 = .ok (.istore_n 1, 1) := by decide +kernel
theorem dX3_count_22 : decode cX3_count 22 = .ok (.iinc 2 1, 3) := by decide +kernel
theorem dX3_count_25 : decode cX3_count 25 = .ok (.goto (-21), 3) := by decide +kernel
theorem dX3_count_28 : decode cX3_count 28 = .ok (.iload_n 1, 1) := by decide +kernel
theorem dX3_count_29 : decode cX3_count 29 = .ok (.ireturn, 1) := by decide +kernel
theorem dX3_leastMissingSum_0 : decode cX3_leastMissingSum 0 = .ok (.iconst 1, 1) := by decide +kernel
theorem dX3_leastMissingSum_1 : decode cX3_leastMissingSum 1 = .ok (.istore_n 1, 1) := by decide +kernel
theorem dX3_leastMissingSum_2 : decode cX3_leastMissingSum 2 = .ok (.iload_n 1, 1) := by decide +kernel
theorem dX3_leastMissingSum_3 : decode cX3_leastMissingSum 3 = .ok (.sipush 4096, 3) := by decide +kernel
theorem dX3_leastMissingSum_6 : decode cX3_leastMissingSum 6 = .ok (.if_icmp .ge 32, 3) := by decide +kernel
theorem dX3_leastMissingSum_9 : decode cX3_leastMissingSum 9 = .ok (.aload_n 0, 1) := by decide +kernel
theorem dX3_leastMissingSum_10 : decode cX3_leastMissingSum 10 = .ok (.getfield 11, 3) := by decide +kernel
theorem dX3_leastMissingSum_13 : decode cX3_leastMissingSum 13 = .ok (.iload_n 1, 1) := by decide +kernel
theorem dX3_leastMissingSum_14 : decode cX3_leastMissingSum 14 = .ok (.bipush 64, 2) := by decide +kernel
theorem dX3_leastMissingSum_16 : decode cX3_leastMissingSum 16 = .ok (.idiv, 1) := by decide +kernel
theorem dX3_leastMissingSum_17 : decode cX3_leastMissingSum 17 = .ok (.laload, 1) := by decide +kernel
theorem dX3_leastMissingSum_18 : decode cX3_leastMissingSum 18 = .ok (.iload_n 1, 1) := by decide +kernel
theorem dX3_leastMissingSum_19 : decode cX3_leastMissingSum 19 = .ok (.bipush 64, 2) := by decide +kernel
theorem dX3_leastMissingSum_21 : decode cX3_leastMissingSum 21 = .ok (.irem, 1) := by decide +kernel
theorem dX3_leastMissingSum_22 : decode cX3_leastMissingSum 22 = .ok (.lshr, 1) := by decide +kernel
theorem dX3_leastMissingSum_23 : decode cX3_leastMissingSum 23 = .ok (.lconst 1, 1) := by decide +kernel
theorem dX3_leastMissingSum_24 : decode cX3_leastMissingSum 24 = .ok (.land, 1) := by decide +kernel
theorem dX3_leastMissingSum_25 : decode cX3_leastMissingSum 25 = .ok (.lconst 0, 1) := by decide +kernel
theorem dX3_leastMissingSum_26 : decode cX3_leastMissingSum 26 = .ok (.lcmp, 1) := by decide +kernel
theorem dX3_leastMissingSum_27 : decode cX3_leastMissingSum 27 = .ok (.ifCond .ne 5, 3) := by decide +kernel
theorem dX3_leastMissingSum_30 : decode cX3_leastMissingSum 30 = .ok (.iload_n 1, 1) := by decide +kernel
theorem dX3_leastMissingSum_31 : decode cX3_leastMissingSum 31 = .ok (.ireturn, 1) := by decide +kernel
theorem dX3_leastMissingSum_32 : decode cX3_leastMissingSum 32 = .ok (.iinc 1 1, 3) := by decide +kernel
theorem dX3_leastMissingSum_35 : decode cX3_leastMissingSum 35 = .ok (.goto (-33), 3) := by decide +kernel
theorem dX3_leastMissingSum_38 : decode cX3_leastMissingSum 38 = .ok (.sipush 4096, 3) := by decide +kernel
theorem dX3_leastMissingSum_41 : decode cX3_leastMissingSum 41 = .ok (.ireturn, 1) := by decide +kernel
theorem dX4_init_0 : decode cX4_init 0 = .ok (.aload_n 0, 1) := by decide +kernel
theorem dX4_init_1 : decode cX4_init 1 = .ok (.invokespecial 3, 3) := by decide +kernel
theorem dX4_init_4 : decode cX4_init 4 = .ok (.aload_n 0, 1) := by decide +kernel
theorem dX4_init_5 : decode cX4_init 5 = .ok (.iconst 0, 1) := by decide +kernel
theorem dX4_init_6 : decode cX4_init 6 = .ok (.putfield 9, 3) := by decide +kernel
theorem dX4_init_9 : decode cX4_init 9 = .ok (.aload_n 0, 1) := by decide +kernel
theorem dX4_init_10 : decode cX4_init 10 = .ok (.iconst 0, 1) := by decide +kernel
theorem dX4_init_11 : decode cX4_init 11 = .ok (.putfield 15, 3) := by decide +kernel
theorem dX4_init_14 : decode cX4_init 14 = .ok (.aload_n 0, 1) := by decide +kernel
theorem dX4_init_15 : decode cX4_init 15 = .ok (.iconst 0, 1) := by decide +kernel
theorem dX4_init_16 : decode cX4_init 16 = .ok (.putfield 18, 3) := by decide +kernel
theorem dX4_init_19 : decode cX4_init 19 = .ok (.return_, 1) := by decide +kernel
set_option maxRecDepth 20000 in
theorem ggX4_run_X7_afterHoldTick : GoodIn wsX4_run wsX7_afterHoldTick := goodIn_r _ [8] (by decide +kernel) (by decide +kernel)
set_option maxRecDepth 20000 in
theorem gX4_run_X7_afterHoldTick_n26 : GoodIn wsX4_run (wsX7_afterHoldTick) := ggX4_run_X7_afterHoldTick
set_option maxRecDepth 20000 in
theorem ggX4_run_X7_hasBit : GoodIn wsX4_run wsX7_hasBit := goodIn_r _ [10] (by decide +kernel) (by decide +kernel)
set_option maxRecDepth 20000 in
theorem gX4_run_X7_hasBit_n34 : GoodIn wsX4_run (wsX7_hasBit) := ggX4_run_X7_hasBit
theorem dX4_run_0 : decode cX4_run 0 = .ok (.aload_n 0, 1) := by decide +kernel
theorem dX4_run_1 : decode cX4_run 1 = .ok (.iload_n 2, 1) := by decide +kernel
theorem dX4_run_2 : decode cX4_run 2 = .ok (.putfield 9, 3) := by decide +kernel
theorem dX4_run_5 : decode cX4_run 5 = .ok (.aload_n 0, 1) := by decide +kernel
theorem dX4_run_6 : decode cX4_run 6 = .ok (.iconst 0, 1) := by decide +kernel
theorem dX4_run_7 : decode cX4_run 7 = .ok (.putfield 15, 3) := by decide +kernel
theorem dX4_run_10 : decode cX4_run 10 = .ok (.aload_n 0, 1) := by decide +kernel
theorem dX4_run_11 : decode cX4_run 11 = .ok (.iconst 0, 1) := by decide +kernel
theorem dX4_run_12 : decode cX4_run 12 = .ok (.putfield 18, 3) := by decide +kernel
theorem dX4_run_15 : decode cX4_run 15 = .ok (.iconst 0, 1) := by decide +kernel
theorem dX4_run_16 : decode cX4_run 16 = .ok (.istore 6, 2) := by decide +kernel
theorem dX4_run_18 : decode cX4_run 18 = .ok (.iload 6, 2) := by decide +kernel
theorem dX4_run_20 : decode cX4_run 20 = .ok (.aload_n 1, 1) := by decide +kernel
theorem dX4_run_21 : decode cX4_run 21 = .ok (.getfield 21, 3) := by decide +kernel
theorem dX4_run_24 : decode cX4_run 24 = .ok (.if_icmp .ge 88, 3) := by decide +kernel
theorem dX4_run_27 : decode cX4_run 27 = .ok (.aload_n 0, 1) := by decide +kernel
theorem dX4_run_28 : decode cX4_run 28 = .ok (.aload_n 0, 1) := by decide +kernel
theorem dX4_run_29 : decode cX4_run 29 = .ok (.getfield 9, 3) := by decide +kernel
theorem dX4_run_32 : decode cX4_run 32 = .ok (.iload_n 3, 1) := by decide +kernel
theorem dX4_run_33 : decode cX4_run 33 = .ok (.invokestatic 26, 3) := by decide +kernel
theorem dX4_run_36 : decode cX4_run 36 = .ok (.putfield 9, 3) := by decide +kernel
theorem dX4_run_39 : decode cX4_run 39 = .ok (.aload_n 0, 1) := by decide +kernel
theorem dX4_run_40 : decode cX4_run 40 = .ok (.getfield 18, 3) := by decide +kernel
theorem dX4_run_43 : decode cX4_run 43 = .ok (.aload_n 1, 1) := by decide +kernel
theorem dX4_run_44 : decode cX4_run 44 = .ok (.getfield 30, 3) := by decide +kernel
theorem dX4_run_47 : decode cX4_run 47 = .ok (.iload 6, 2) := by decide +kernel
theorem dX4_run_49 : decode cX4_run 49 = .ok (.iaload, 1) := by decide +kernel
theorem dX4_run_50 : decode cX4_run 50 = .ok (.iadd, 1) := by decide +kernel
theorem dX4_run_51 : decode cX4_run 51 = .ok (.istore 7, 2) := by decide +kernel
theorem dX4_run_53 : decode cX4_run 53 = .ok (.aload_n 0, 1) := by decide +kernel
theorem dX4_run_54 : decode cX4_run 54 = .ok (.getfield 9, 3) := by decide +kernel
theorem dX4_run_57 : decode cX4_run 57 = .ok (.iload 4, 2) := by decide +kernel
theorem dX4_run_59 : decode cX4_run 59 = .ok (.iadd, 1) := by decide +kernel
theorem dX4_run_60 : decode cX4_run 60 = .ok (.bipush 16, 2) := by decide +kernel
theorem dX4_run_62 : decode cX4_run 62 = .ok (.iload 7, 2) := by decide +kernel
theorem dX4_run_64 : decode cX4_run 64 = .ok (.imul, 1) := by decide +kernel
theorem dX4_run_65 : decode cX4_run 65 = .ok (.if_icmp .lt 7, 3) := by decide +kernel
theorem dX4_run_68 : decode cX4_run 68 = .ok (.iconst 1, 1) := by decide +kernel
theorem dX4_run_69 : decode cX4_run 69 = .ok (.goto 4, 3) := by decide +kernel
theorem dX4_run_72 : decode cX4_run 72 = .ok (.iconst 0, 1) := by decide +kernel
theorem dX4_run_73 : decode cX4_run 73 = .ok (.istore 8, 2) := by decide +kernel
theorem dX4_run_75 : decode cX4_run 75 = .ok (.iload 8, 2) := by decide +kernel
theorem dX4_run_77 : decode cX4_run 77 = .ok (.iload 5, 2) := by decide +kernel
theorem dX4_run_79 : decode cX4_run 79 = .ok (.iload 6, 2) := by decide +kernel
theorem dX4_run_81 : decode cX4_run 81 = .ok (.invokestatic 34, 3) := by decide +kernel
theorem dX4_run_84 : decode cX4_run 84 = .ok (.if_icmp .eq 22, 3) := by decide +kernel
theorem dX4_run_87 : decode cX4_run 87 = .ok (.aload_n 0, 1) := by decide +kernel
theorem dX4_run_88 : decode cX4_run 88 = .ok (.iload 7, 2) := by decide +kernel
theorem dX4_run_90 : decode cX4_run 90 = .ok (.putfield 18, 3) := by decide +kernel
theorem dX4_run_93 : decode cX4_run 93 = .ok (.aload_n 0, 1) := by decide +kernel
theorem dX4_run_94 : decode cX4_run 94 = .ok (.dup, 1) := by decide +kernel
theorem dX4_run_95 : decode cX4_run 95 = .ok (.getfield 15, 3) := by decide +kernel
theorem dX4_run_98 : decode cX4_run 98 = .ok (.iconst 1, 1) := by decide +kernel
theorem dX4_run_99 : decode cX4_run 99 = .ok (.iload 6, 2) := by decide +kernel
theorem dX4_run_101 : decode cX4_run 101 = .ok (.ishl, 1) := by decide +kernel
theorem dX4_run_102 : decode cX4_run 102 = .ok (.ior, 1) := by decide +kernel
theorem dX4_run_103 : decode cX4_run 103 = .ok (.putfield 15, 3) := by decide +kernel
theorem dX4_run_106 : decode cX4_run 106 = .ok (.iinc 6 1, 3) := by decide +kernel
theorem dX4_run_109 : decode cX4_run 109 = .ok (.goto (-91), 3) := by decide +kernel
theorem dX4_run_112 : decode cX4_run 112 = .ok (.return_, 1) := by decide +kernel
theorem dX5_init_0 : decode cX5_init 0 = .ok (.aload_n 0, 1) := by decide +kernel
theorem dX5_init_1 : decode cX5_init 1 = .ok (.invokespecial 3, 3) := by decide +kernel
theorem dX5_init_4 : decode cX5_init 4 = .ok (.aload_n 0, 1) := by decide +kernel
theorem dX5_init_5 : decode cX5_init 5 = .ok (.bipush 60, 2) := by decide +kernel
theorem dX5_init_7 : decode cX5_init 7 = .ok (.newarray .char, 2) := by decide +kernel
theorem dX5_init_9 : decode cX5_init 9 = .ok (.putfield 9, 3) := by decide +kernel
theorem dX5_init_12 : decode cX5_init 12 = .ok (.aload_n 0, 1) := by decide +kernel
theorem dX5_init_13 : decode cX5_init 13 = .ok (.iconst 0, 1) := by decide +kernel
theorem dX5_init_14 : decode cX5_init 14 = .ok (.putfield 15, 3) := by decide +kernel
theorem dX5_init_17 : decode cX5_init 17 = .ok (.return_, 1) := by decide +kernel
theorem dX5_add_0 : decode cX5_add 0 = .ok (.aload_n 0, 1) := by decide +kernel
theorem dX5_add_1 : decode cX5_add 1 = .ok (.getfield 9, 3) := by decide +kernel
theorem dX5_add_4 : decode cX5_add 4 = .ok (.aload_n 0, 1) := by decide +kernel
theorem dX5_add_5 : decode cX5_add 5 = .ok (.getfield 15, 3) := by decide +kernel
theorem dX5_add_8 : decode cX5_add 8 = .ok (.iload_n 1, 1) := by decide +kernel
theorem dX5_add_9 : decode cX5_add 9 = .ok (.castore, 1) := by decide +kernel
theorem dX5_add_10 : decode cX5_add 10 = .ok (.aload_n 0, 1) := by decide +kernel
theorem dX5_add_11 : decode cX5_add 11 = .ok (.dup, 1) := by decide +kernel
theorem dX5_add_12 : decode cX5_add 12 = .ok (.getfield 15, 3) := by decide +kernel
theorem dX5_add_15 : decode cX5_add 15 = .ok (.iconst 1, 1) := by decide +kernel
theorem dX5_add_16 : decode cX5_add 16 = .ok (.iadd, 1) := by decide +kernel
theorem dX5_add_17 : decode cX5_add 17 = .ok (.putfield 15, 3) := by decide +kernel
theorem dX5_add_20 : decode cX5_add 20 = .ok (.return_, 1) := by decide +kernel
set_option maxRecDepth 20000 in
theorem ggX5_errorIndex_X5_withDigit : GoodIn wsX5_errorIndex wsX5_withDigit := goodIn_r _ [6] (by decide +kernel) (by decide +kernel)
set_option maxRecDepth 20000 in
theorem gX5_errorIndex_X5_withDigit : GoodIn wsX5_errorIndex (va_wsS RX5 19 yX5_withDigit wsX5_withDigit) := goodIn_app (goodIn_of _ (by decide +kernel)) ggX5_errorIndex_X5_withDigit
theorem dX5_errorIndex_0 : decode cX5_errorIndex 0 = .ok (.iconst 0, 1) := by decide +kernel
theorem dX5_errorIndex_1 : decode cX5_errorIndex 1 = .ok (.istore_n 1, 1) := by decide +kernel
theorem dX5_errorIndex_2 : decode cX5_errorIndex 2 = .ok (.iconst 0, 1) := by decide +kernel
theorem dX5_errorIndex_3 : decode cX5_errorIndex 3 = .ok (.istore_n 2, 1) := by decide +kernel
theorem dX5_errorIndex_4 : decode cX5_errorIndex 4 = .ok (.iconst 0, 1) := by decide +kernel
theorem dX5_errorIndex_5 : decode cX5_errorIndex 5 = .ok (.istore_n 3, 1) := by decide +kernel
theorem dX5_errorIndex_6 : decode cX5_errorIndex 6 = .ok (.iload_n 3, 1) := by decide +kernel
theorem dX5_errorIndex_7 : decode cX5_errorIndex 7 = .ok (.aload_n 0, 1) := by decide +kernel
theorem dX5_errorIndex_8 : decode cX5_errorIndex 8 = .ok (.getfield 15, 3) := by decide +kernel
theorem dX5_errorIndex_11 : decode cX5_errorIndex 11 = .ok (.if_icmp .ge 80, 3) := by decide +kernel
theorem dX5_errorIndex_14 : decode cX5_errorIndex 14 = .ok (.aload_n 0, 1) := by decide +kernel
theorem dX5_errorIndex_15 : decode cX5_errorIndex 15 = .ok (.getfield 9, 3) := by decide +kernel
theorem dX5_errorIndex_18 : decode cX5_errorIndex 18 = .ok (.iload_n 3, 1) := by decide +kernel
theorem dX5_errorIndex_19 : decode cX5_errorIndex 19 = .ok (.caload, 1) := by decide +kernel
theorem dX5_errorIndex_20 : decode cX5_errorIndex 20 = .ok (.istore 4, 2) := by decide +kernel
theorem dX5_errorIndex_22 : decode cX5_errorIndex 22 = .ok (.iload 4, 2) := by decide +kernel
theorem dX5_errorIndex_24 : decode cX5_errorIndex 24 = .ok (.bipush 44, 2) := by decide +kernel
theorem dX5_errorIndex_26 : decode cX5_errorIndex 26 = .ok (.if_icmp .ne 23, 3) := by decide +kernel
theorem dX5_errorIndex_29 : decode cX5_errorIndex 29 = .ok (.iinc 2 1, 3) := by decide +kernel
theorem dX5_errorIndex_32 : decode cX5_errorIndex 32 = .ok (.iload_n 1, 1) := by decide +kernel
theorem dX5_errorIndex_33 : decode cX5_errorIndex 33 = .ok (.ifCond .eq 9, 3) := by decide +kernel
theorem dX5_errorIndex_36 : decode cX5_errorIndex 36 = .ok (.iload_n 2, 1) := by decide +kernel
theorem dX5_errorIndex_37 : decode cX5_errorIndex 37 = .ok (.bipush 12, 2) := by decide +kernel
theorem dX5_errorIndex_39 : decode cX5_errorIndex 39 = .ok (.if_icmp .ne 5, 3) := by decide +kernel
theorem dX5_errorIndex_42 : decode cX5_errorIndex 42 = .ok (.iload_n 3, 1) := by decide +kernel
theorem dX5_errorIndex_43 : decode cX5_errorIndex 43 = .ok (.ireturn, 1) := by decide +kernel
theorem dX5_errorIndex_44 : decode cX5_errorIndex 44 = .ok (.iconst 0, 1) := by decide +kernel
theorem dX5_errorIndex_45 : decode cX5_errorIndex 45 = .ok (.istore_n 1, 1) := by decide +kernel
theorem dX5_errorIndex_46 : decode cX5_errorIndex 46 = .ok (.goto 39, 3) := by decide +kernel
theorem dX5_errorIndex_49 : decode cX5_errorIndex 49 = .ok (.iload 4, 2) := by decide +kernel
theorem dX5_errorIndex_51 : decode cX5_errorIndex 51 = .ok (.bipush 48, 2) := by decide +kernel
theorem dX5_errorIndex_53 : decode cX5_errorIndex 53 = .ok (.if_icmp .lt 10, 3) := by decide +kernel
theorem dX5_errorIndex_56 : decode cX5_errorIndex 56 = .ok (.iload 4, 2) := by decide +kernel
theorem dX5_errorIndex_58 : decode cX5_errorIndex 58 = .ok (.bipush 57, 2) := by decide +kernel
theorem dX5_errorIndex_60 : decode cX5_errorIndex 60 = .ok (.if_icmp .le 5, 3) := by decide +kernel
theorem dX5_errorIndex_63 : decode cX5_errorIndex 63 = .ok (.iload_n 3, 1) := by decide +kernel
theorem dX5_errorIndex_64 : decode cX5_errorIndex 64 = .ok (.ireturn, 1) := by decide +kernel
theorem dX5_errorIndex_65 : decode cX5_errorIndex 65 = .ok (.iload_n 1, 1) := by decide +kernel
theorem dX5_errorIndex_66 : decode cX5_errorIndex 66 = .ok (.iload 4, 2) := by decide +kernel
theorem dX5_errorIndex_68 : decode cX5_errorIndex 68 = .ok (.invokestatic 19, 3) := by decide +kernel
theorem dX5_errorIndex_71 : decode cX5_errorIndex 71 = .ok (.istore_n 1, 1) := by decide +kernel
theorem dX5_errorIndex_72 : decode cX5_errorIndex 72 = .ok (.iload_n 1, 1) := by decide +kernel
theorem dX5_errorIndex_73 : decode cX5_errorIndex 73 = .ok (.ifCond .eq 10, 3) := by decide +kernel
theorem dX5_errorIndex_76 : decode cX5_errorIndex 76 = .ok (.iload_n 1, 1) := by decide +kernel
theorem dX5_errorIndex_77 : decode cX5_errorIndex 77 = .ok (.sipush 2048, 3) := by decide +kernel
theorem dX5_errorIndex_80 : decode cX5_errorIndex 80 = .ok (.if_icmp .le 5, 3) := by decide +kernel
theorem dX5_errorIndex_83 : decode cX5_errorIndex 83 = .ok (.iload_n 3, 1) := by decide +kernel
theorem dX5_errorIndex_84 : decode cX5_errorIndex 84 = .ok (.ireturn, 1) := by decide +kernel
theorem dX5_errorIndex_85 : decode cX5_errorIndex 85 = .ok (.iinc 3 1, 3) := by decide +kernel
theorem dX5_errorIndex_88 : decode cX5_errorIndex 88 = .ok (.goto (-82), 3) := by decide +kernel
theorem dX5_errorIndex_91 : decode cX5_errorIndex 91 = .ok (.aload_n 0, 1) := by decide +kernel
theorem dX5_errorIndex_92 : decode cX5_errorIndex 92 = .ok (.getfield 15, 3) := by decide +kernel
theorem dX5_errorIndex_95 : decode cX5_errorIndex 95 = .ok (.ireturn, 1) := by decide +kernel
set_option maxRecDepth 20000 in
theorem ggX5_isComplete_X5_errorIndex : GoodIn wsX5_isComplete wsX5_errorIndex := goodIn_r _ [7, 1, 2, 8, 9, 6, 10, 11, 12] (by decide +kernel) (by decide +kernel)
set_option maxRecDepth 20000 in
theorem gX5_isComplete_X5_errorIndex : GoodIn wsX5_isComplete (wsV RX5 23 RX5 yX5_errorIndex wsX5_errorIndex) := goodIn_app (goodIn_of _ (by decide +kernel)) ggX5_isComplete_X5_errorIndex
theorem dX5_isComplete_0 : decode cX5_isComplete 0 = .ok (.aload_n 0, 1) := by decide +kernel
theorem dX5_isComplete_1 : decode cX5_isComplete 1 = .ok (.getfield 15, 3) := by decide +kernel
theorem dX5_isComplete_4 : decode cX5_isComplete 4 = .ok (.ifCond .le 34, 3) := by decide +kernel
theorem dX5_isComplete_7 : decode cX5_isComplete 7 = .ok (.aload_n 0, 1) := by decide +kernel
theorem dX5_isComplete_8 : decode cX5_isComplete 8 = .ok (.getfield 9, 3) := by decide +kernel
theorem dX5_isComplete_11 : decode cX5_isComplete 11 = .ok (.aload_n 0, 1) := by decide +kernel
theorem dX5_isComplete_12 : decode cX5_isComplete 12 = .ok (.getfield 15, 3) := by decide +kernel
theorem dX5_isComplete_15 : decode cX5_isComplete 15 = .ok (.iconst 1, 1) := by decide +kernel
theorem dX5_isComplete_16 : decode cX5_isComplete 16 = .ok (.isub, 1) := by decide +kernel
theorem dX5_isComplete_17 : decode cX5_isComplete 17 = .ok (.caload, 1) := by decide +kernel
theorem dX5_isComplete_18 : decode cX5_isComplete 18 = .ok (.bipush 44, 2) := by decide +kernel
theorem dX5_isComplete_20 : decode cX5_isComplete 20 = .ok (.if_icmp .eq 18, 3) := by decide +kernel
theorem dX5_isComplete_23 : decode cX5_isComplete 23 = .ok (.aload_n 0, 1) := by decide +kernel
theorem dX5_isComplete_24 : decode cX5_isComplete 24 = .ok (.invokevirtual 23, 3) := by decide +kernel
theorem dX5_isComplete_27 : decode cX5_isComplete 27 = .ok (.aload_n 0, 1) := by decide +kernel
theorem dX5_isComplete_28 : decode cX5_isComplete 28 = .ok (.getfield 15, 3) := by decide +kernel
theorem dX5_isComplete_31 : decode cX5_isComplete 31 = .ok (.if_icmp .ne 7, 3) := by decide +kernel
theorem dX5_isComplete_34 : decode cX5_isComplete 34 = .ok (.iconst 1, 1) := by decide +kernel
theorem dX5_isComplete_35 : decode cX5_isComplete 35 = .ok (.goto 4, 3) := by decide +kernel
theorem dX5_isComplete_38 : decode cX5_isComplete 38 = .ok (.iconst 0, 1) := by decide +kernel
theorem dX5_isComplete_39 : decode cX5_isComplete 39 = .ok (.ireturn, 1) := by decide +kernel
set_option maxRecDepth 20000 in
theorem ggX5_writeTo_X6_putIn : GoodIn wsX5_writeTo wsX6_putIn := goodIn_r _ [8, 9, 10, 15, 16] (by decide +kernel) (by decide +kernel)
set_option maxRecDepth 20000 in
theorem gX5_writeTo_X6_putIn : GoodIn wsX5_writeTo (wsV RX5 32 RX6 yX6_putIn wsX6_putIn) := goodIn_app (goodIn_of _ (by decide +kernel)) ggX5_writeTo_X6_putIn
set_option maxRecDepth 20000 in
theorem ggX5_writeTo_X5_withDigit : GoodIn wsX5_writeTo wsX5_withDigit := goodIn_r _ [14] (by decide +kernel) (by decide +kernel)
set_option maxRecDepth 20000 in
theorem gX5_writeTo_X5_withDigit : GoodIn wsX5_writeTo (va_wsS RX5 19 yX5_withDigit wsX5_withDigit) := goodIn_app (goodIn_of _ (by decide +kernel)) ggX5_writeTo_X5_withDigit
theorem dX5_writeTo_0 : decode cX5_writeTo 0 = .ok (.aload_n 1, 1) := by decide +kernel
theorem dX5_writeTo_1 : decode cX5_writeTo 1 = .ok (.iconst 0, 1) := by decide +kernel
theorem dX5_writeTo_2 : decode cX5_writeTo 2 = .ok (.putfield 27, 3) := by decide +kernel
theorem dX5_writeTo_5 : decode cX5_writeTo 5 = .ok (.iconst 0, 1) := by decide +kernel
theorem dX5_writeTo_6 : decode cX5_writeTo 6 = .ok (.istore_n 2, 1) := by decide +kernel
theorem dX5_writeTo_7 : decode cX5_writeTo 7 = .ok (.iconst 0, 1) := by decide +kernel
theorem dX5_writeTo_8 : decode cX5_writeTo 8 = .ok (.istore_n 3, 1) := by decide +kernel
theorem dX5_writeTo_9 : decode cX5_writeTo 9 = .ok (.iload_n 3, 1) := by decide +kernel
theorem dX5_writeTo_10 : decode cX5_writeTo 10 = .ok (.aload_n 0, 1) := by decide +kernel
theorem dX5_writeTo_11 : decode cX5_writeTo 11 = .ok (.getfield 15, 3) := by decide +kernel
theorem dX5_writeTo_14 : decode cX5_writeTo 14 = .ok (.if_icmp .ge 45, 3) := by decide +kernel
theorem dX5_writeTo_17 : decode cX5_writeTo 17 = .ok (.aload_n 0, 1) := by decide +kernel
theorem dX5_writeTo_18 : decode cX5_writeTo 18 = .ok (.getfield 9, 3) := by decide +kernel
theorem dX5_writeTo_21 : decode cX5_writeTo 21 = .ok (.iload_n 3, 1) := by decide +kernel
theorem dX5_writeTo_22 : decode cX5_writeTo 22 = .ok (.caload, 1) := by decide +kernel
theorem dX5_writeTo_23 : decode cX5_writeTo 23 = .ok (.bipush 44, 2) := by decide +kernel
theorem dX5_writeTo_25 : decode cX5_writeTo 25 = .ok (.if_icmp .ne 17, 3) := by decide +kernel
theorem dX5_writeTo_28 : decode cX5_writeTo 28 = .ok (.aload_n 1, 1) := by decide +kernel
theorem dX5_writeTo_29 : decode cX5_writeTo 29 = .ok (.aload_n 1, 1) := by decide +kernel
theorem dX5_writeTo_30 : decode cX5_writeTo 30 = .ok (.getfield 27, 3) := by decide +kernel
theorem dX5_writeTo_33 : decode cX5_writeTo 33 = .ok (.iload_n 2, 1) := by decide +kernel
theorem dX5_writeTo_34 : decode cX5_writeTo 34 = .ok (.invokevirtual 32, 3) := by decide +kernel
theorem dX5_writeTo_37 : decode cX5_writeTo 37 = .ok (.iconst 0, 1) := by decide +kernel
theorem dX5_writeTo_38 : decode cX5_writeTo 38 = .ok (.istore_n 2, 1) := by decide +kernel
theorem dX5_writeTo_39 : decode cX5_writeTo 39 = .ok (.goto 14, 3) := by decide +kernel
theorem dX5_writeTo_42 : decode cX5_writeTo 42 = .ok (.iload_n 2, 1) := by decide +kernel
theorem dX5_writeTo_43 : decode cX5_writeTo 43 = .ok (.aload_n 0, 1) := by decide +kernel
theorem dX5_writeTo_44 : decode cX5_writeTo 44 = .ok (.getfield 9, 3) := by decide +kernel
theorem dX5_writeTo_47 : decode cX5_writeTo 47 = .ok (.iload_n 3, 1) := by decide +kernel
theorem dX5_writeTo_48 : decode cX5_writeTo 48 = .ok (.caload, 1) := by decide +kernel
theorem dX5_writeTo_49 : decode cX5_writeTo 49 = .ok (.invokestatic 19, 3) := by decide +kernel
theorem dX5_writeTo_52 : decode cX5_writeTo 52 = .ok (.istore_n 2, 1) := by decide +kernel
theorem dX5_writeTo_53 : decode cX5_writeTo 53 = .ok (.iinc 3 1, 3) := by decide +kernel
theorem dX5_writeTo_56 : decode cX5_writeTo 56 = .ok (.goto (-47), 3) := by decide +kernel
theorem dX5_writeTo_59 : decode cX5_writeTo 59 = .ok (.aload_n 1, 1) := by decide +kernel
theorem dX5_writeTo_60 : decode cX5_writeTo 60 = .ok (.aload_n 1, 1) := by decide +kernel
theorem dX5_writeTo_61 : decode cX5_writeTo 61 = .ok (.getfield 27, 3) := by decide +kernel
theorem dX5_writeTo_64 : decode cX5_writeTo 64 = .ok (.iload_n 2, 1) := by decide +kernel
theorem dX5_writeTo_65 : decode cX5_writeTo 65 = .ok (.invokevirtual 32, 3) := by decide +kernel
theorem dX5_writeTo_68 : decode cX5_writeTo 68 = .ok (.return_, 1) := by decide +kernel
theorem dX5_withDigit_0 : decode cX5_withDigit 0 = .ok (.bipush 10, 2) := by decide +kernel
theorem dX5_withDigit_2 : decode cX5_withDigit 2 = .ok (.iload_n 0, 1) := by decide +kernel
theorem dX5_withDigit_3 : decode cX5_withDigit 3 = .ok (.imul, 1) := by decide +kernel
theorem dX5_withDigit_4 : decode cX5_withDigit 4 = .ok (.iload_n 1, 1) := by decide +kernel
theorem dX5_withDigit_5 : decode cX5_withDigit 5 = .ok (.bipush 48, 2) := by decide +kernel
theorem dX5_withDigit_7 : decode cX5_withDigit 7 = .ok (.isub, 1) := by decide +kernel
theorem dX5_withDigit_8 : decode cX5_withDigit 8 = .ok (.iadd, 1) := by decide +kernel
theorem dX5_withDigit_9 : decode cX5_withDigit 9 = .ok (.ireturn, 1) := by decide +kernel
theorem dX6_init_0 : decode cX6_init 0 = .ok (.aload_n 0, 1) := by decide +kernel
theorem dX6_init_1 : decode cX6_init 1 = .ok (.invokespecial 3, 3) := by decide +kernel
theorem dX6_init_4 : decode cX6_init 4 = .ok (.aload_n 0, 1) := by decide +kernel
theorem dX6_init_5 : decode cX6_init 5 = .ok (.bipush 12, 2) := by decide +kernel
theorem dX6_init_7 : decode cX6_init 7 = .ok (.newarray .int, 2) := by decide +kernel
theorem dX6_init_9 : decode cX6_init 9 = .ok (.putfield 9, 3) := by decide +kernel
theorem dX6_init_12 : decode cX6_init 12 = .ok (.aload_n 0, 1) := by decide +kernel
theorem dX6_init_13 : decode cX6_init 13 = .ok (.getstatic 15, 3) := by decide +kernel
theorem dX6_init_16 : decode cX6_init 16 = .ok (.arraylength, 1) := by decide +kernel
theorem dX6_init_17 : decode cX6_init 17 = .ok (.putfield 18, 3) := by decide +kernel
theorem dX6_init_20 : decode cX6_init 20 = .ok (.getstatic 15, 3) := by decide +kernel
theorem dX6_init_23 : decode cX6_init 23 = .ok (.iconst 0, 1) := by decide +kernel
theorem dX6_init_24 : decode cX6_init 24 = .ok (.aload_n 0, 1) := by decide +kernel
theorem dX6_init_25 : decode cX6_init 25 = .ok (.getfield 9, 3) := by decide +kernel
theorem dX6_init_28 : decode cX6_init 28 = .ok (.iconst 0, 1) := by decide +kernel
theorem dX6_init_29 : decode cX6_init 29 = .ok (.getstatic 15, 3) := by decide +kernel
theorem dX6_init_32 : decode cX6_init 32 = .ok (.arraylength, 1) := by decide +kernel
theorem dX6_init_33 : decode cX6_init 33 = .ok (.invokestatic 22, 3) := by decide +kernel
theorem dX6_init_36 : decode cX6_init 36 = .ok (.return_, 1) := by decide +kernel
theorem dX6_copyFrom_0 : decode cX6_copyFrom 0 = .ok (.aload_n 1, 1) := by decide +kernel
theorem dX6_copyFrom_1 : decode cX6_copyFrom 1 = .ok (.getfield 9, 3) := by decide +kernel
theorem dX6_copyFrom_4 : decode cX6_copyFrom 4 = .ok (.iconst 0, 1) := by decide +kernel
theorem dX6_copyFrom_5 : decode cX6_copyFrom 5 = .ok (.aload_n 0, 1) := by decide +kernel
theorem dX6_copyFrom_6 : decode cX6_copyFrom 6 = .ok (.getfield 9, 3) := by decide +kernel
theorem dX6_copyFrom_9 : decode cX6_copyFrom 9 = .ok (.iconst 0, 1) := by decide +kernel
theorem dX6_copyFrom_10 : decode cX6_copyFrom 10 = .ok (.bipush 12, 2) := by decide +kernel
theorem dX6_copyFrom_12 : decode cX6_copyFrom 12 = .ok (.invokestatic 22, 3) := by decide +kernel
theorem dX6_copyFrom_15 : decode cX6_copyFrom 15 = .ok (.aload_n 0, 1) := by decide +kernel
theorem dX6_copyFrom_16 : decode cX6_copyFrom 16 = .ok (.aload_n 1, 1) := by decide +kernel
theorem dX6_copyFrom_17 : decode cX6_copyFrom 17 = .ok (.getfield 18, 3) := by decide +kernel
theorem dX6_copyFrom_20 : decode cX6_copyFrom 20 = .ok (.putfield 18, 3) := by decide +kernel
theorem dX6_copyFrom_23 : decode cX6_copyFrom 23 = .ok (.return_, 1) := by decide +kernel
theorem dX6_putIn_0 : decode cX6_putIn 0 = .ok (.aload_n 0, 1) := by decide +kernel
theorem dX6_putIn_1 : decode cX6_putIn 1 = .ok (.getfield 18, 3) := by decide +kernel
theorem dX6_putIn_4 : decode cX6_putIn 4 = .ok (.istore_n 3, 1) := by decide +kernel
theorem dX6_putIn_5 : decode cX6_putIn 5 = .ok (.iload_n 3, 1) := by decide +kernel
theorem dX6_putIn_6 : decode cX6_putIn 6 = .ok (.iload_n 1, 1) := by decide +kernel
theorem dX6_putIn_7 : decode cX6_putIn 7 = .ok (.if_icmp .le 23, 3) := by decide +kernel
theorem dX6_putIn_10 : decode cX6_putIn 10 = .ok (.aload_n 0, 1) := by decide +kernel
theorem dX6_putIn_11 : decode cX6_putIn 11 = .ok (.getfield 9, 3) := by decide +kernel
theorem dX6_putIn_14 : decode cX6_putIn 14 = .ok (.iload_n 3, 1) := by decide +kernel
theorem dX6_putIn_15 : decode cX6_putIn 15 = .ok (.aload_n 0, 1) := by decide +kernel
theorem dX6_putIn_16 : decode cX6_putIn 16 = .ok (.getfield 9, 3) := by decide +kernel
theorem dX6_putIn_19 : decode cX6_putIn 19 = .ok (.iload_n 3, 1) := by decide +kernel
theorem dX6_putIn_20 : decode cX6_putIn 20 = .ok (.iconst 1, 1) := by decide +kernel
theorem dX6_putIn_21 : decode cX6_putIn 21 = .ok (.isub, 1) := by decide +kernel
theorem dX6_putIn_22 : decode cX6_putIn 22 = .ok (.iaload, 1) := by decide +kernel
theorem dX6_putIn_23 : decode cX6_putIn 23 = .ok (.iastore, 1) := by decide +kernel
theorem dX6_putIn_24 : decode cX6_putIn 24 = .ok (.iinc 3 (-1), 3) := by decide +kernel
theorem dX6_putIn_27 : decode cX6_putIn 27 = .ok (.goto (-22), 3) := by decide +kernel
theorem dX6_putIn_30 : decode cX6_putIn 30 = .ok (.aload_n 0, 1) := by decide +kernel
theorem dX6_putIn_31 : decode cX6_putIn 31 = .ok (.getfield 9, 3) := by decide +kernel
theorem dX6_putIn_34 : decode cX6_putIn 34 = .ok (.iload_n 1, 1) := by decide +kernel
theorem dX6_putIn_35 : decode cX6_putIn 35 = .ok (.iload_n 2, 1) := by decide +kernel
theorem dX6_putIn_36 : decode cX6_putIn 36 = .ok (.iastore, 1) := by decide +kernel
theorem dX6_putIn_37 : decode cX6_putIn 37 = .ok (.aload_n 0, 1) := by decide +kernel
theorem dX6_putIn_38 : decode cX6_putIn 38 = .ok (.dup, 1) := by decide +kernel
theorem dX6_putIn_39 : decode cX6_putIn 39 = .ok (.getfield 18, 3) := by decide +kernel
theorem dX6_putIn_42 : decode cX6_putIn 42 = .ok (.iconst 1, 1) := by decide +kernel
theorem dX6_putIn_43 : decode cX6_putIn 43 = .ok (.iadd, 1) := by decide +kernel
theorem dX6_putIn_44 : decode cX6_putIn 44 = .ok (.putfield 18, 3) := by decide +kernel
theorem dX6_putIn_47 : decode cX6_putIn 47 = .ok (.return_, 1) := by decide +kernel
theorem dX6_takeOut_0 : decode cX6_takeOut 0 = .ok (.aload_n 0, 1) := by decide +kernel
theorem dX6_takeOut_1 : decode cX6_takeOut 1 = .ok (.getfield 9, 3) := by decide +kernel
theorem dX6_takeOut_4 : decode cX6_takeOut 4 = .ok (.iload_n 1, 1) := by decide +kernel
theorem dX6_takeOut_5 : decode cX6_takeOut 5 = .ok (.iaload, 1) := by decide +kernel
theorem dX6_takeOut_6 : decode cX6_takeOut 6 = .ok (.istore_n 2, 1) := by decide +kernel
theorem dX6_takeOut_7 : decode cX6_takeOut 7 = .ok (.aload_n 0, 1) := by decide +kernel
theorem dX6_takeOut_8 : decode cX6_takeOut 8 = .ok (.dup, 1) := by decide +kernel
theorem dX6_takeOut_9 : decode cX6_takeOut 9 = .ok (.getfield 18, 3) := by decide +kernel
theorem dX6_takeOut_12 : decode cX6_takeOut 12 = .ok (.iconst 1, 1) := by decide +kernel
theorem dX6_takeOut_13 : decode cX6_takeOut 13 = .ok (.isub, 1) := by decide +kernel
theorem dX6_takeOut_14 : decode cX6_takeOut 14 = .ok (.putfield 18, 3) := by decide +kernel
theorem dX6_takeOut_17 : decode cX6_takeOut 17 = .ok (.iload_n 1, 1) := by decide +kernel
theorem dX6_takeOut_18 : decode cX6_takeOut 18 = .ok (.istore_n 3, 1) := by decide +kernel
theorem dX6_takeOut_19 : decode cX6_takeOut 19 = .ok (.iload_n 3, 1) := by decide +kernel
theorem dX6_takeOut_20 : decode cX6_takeOut 20 = .ok (.aload_n 0, 1) := by decide +kernel
theorem dX6_takeOut_21 : decode cX6_takeOut 21 = .ok (.getfield 18, 3) := by decide +kernel
theorem dX6_takeOut_24 : decode cX6_takeOut 24 = .ok (.if_icmp .ge 23, 3) := by decide +kernel
theorem dX6_takeOut_27 : decode cX6_takeOut 27 = .ok (.aload_n 0, 1) := by decide +kernel
theorem dX6_takeOut_28 : decode cX6_takeOut 28 = .ok (.getfield 9, 3) := by decide +kernel
theorem dX6_takeOut_31 : decode cX6_takeOut 31 = .ok (.iload_n 3, 1) := by decide +kernel
theorem dX6_takeOut_32 : decode cX6_takeOut 32 = .ok (.aload_n 0, 1) := by decide +kernel
theorem dX6_takeOut_33 : decode cX6_takeOut 33 = .ok (.getfield 9, 3) := by decide +kernel
theorem dX6_takeOut_36 : decode cX6_takeOut 36 = .ok (.iload_n 3, 1) := by decide +kernel
theorem dX6_takeOut_37 : decode cX6_takeOut 37 = .ok (.iconst 1, 1) := by decide +kernel
theorem dX6_takeOut_38 : decode cX6_takeOut 38 = .ok (.iadd, 1) := by decide +kernel
theorem dX6_takeOut_39 : decode cX6_takeOut 39 = .ok (.iaload, 1) := by decide +kernel
theorem dX6_takeOut_40 : decode cX6_takeOut 40 = .ok (.iastore, 1) := by decide +kernel
theorem dX6_takeOut_41 : decode cX6_takeOut 41 = .ok (.iinc 3 1, 3) := by decide +kernel
theorem dX6_takeOut_44 : decode cX6_takeOut 44 = .ok (.goto (-25), 3) := by decide +kernel
theorem dX6_takeOut_47 : decode cX6_takeOut 47 = .ok (.iload_n 2, 1) := by decide +kernel
theorem dX6_takeOut_48 : decode cX6_takeOut 48 = .ok (.ireturn, 1) := by decide +kernel
set_option maxRecDepth 20000 in
theorem ggX6_countMisplaced_X6_sortedNumber : GoodIn wsX6_countMisplaced wsX6_sortedNumber := goodIn_r _ [6, 1, 7, 8, 9] (by decide +kernel) (by decide +kernel)
set_option maxRecDepth 20000 in
theorem gX6_countMisplaced_X6_sortedNumber : GoodIn wsX6_countMisplaced (wsV RX6 28 RX6 yX6_sortedNumber wsX6_sortedNumber) := goodIn_app (goodIn_of _ (by decide +kernel)) ggX6_countMisplaced_X6_sortedNumber
theorem dX6_countMisplaced_0 : decode cX6_countMisplaced 0 = .ok (.iconst 0, 1) := by decide +kernel
theorem dX6_countMisplaced_1 : decode cX6_countMisplaced 1 = .ok (.istore_n 1, 1) := by decide +kernel
theorem dX6_countMisplaced_2 : decode cX6_countMisplaced 2 = .ok (.iconst 0, 1) := by decide +kernel
theorem dX6_countMisplaced_3 : decode cX6_countMisplaced 3 = .ok (.istore_n 2, 1) := by decide +kernel
theorem dX6_countMisplaced_4 : decode cX6_countMisplaced 4 = .ok (.iload_n 2, 1) := by decide +kernel
theorem dX6_countMisplaced_5 : decode cX6_countMisplaced 5 = .ok (.aload_n 0, 1) := by decide +kernel
theorem dX6_countMisplaced_6 : decode cX6_countMisplaced 6 = .ok (.getfield 18, 3) := by decide +kernel
theorem dX6_countMisplaced_9 : decode cX6_countMisplaced 9 = .ok (.if_icmp .ge 21, 3) := by decide +kernel
theorem dX6_countMisplaced_12 : decode cX6_countMisplaced 12 = .ok (.aload_n 0, 1) := by decide +kernel
theorem dX6_countMisplaced_13 : decode cX6_countMisplaced 13 = .ok (.iload_n 2, 1) := by decide +kernel
theorem dX6_countMisplaced_14 : decode cX6_countMisplaced 14 = .ok (.invokevirtual 28, 3) := by decide +kernel
theorem dX6_countMisplaced_17 : decode cX6_countMisplaced 17 = .ok (.iload_n 2, 1) := by decide +kernel
theorem dX6_countMisplaced_18 : decode cX6_countMisplaced 18 = .ok (.if_icmp .eq 6, 3) := by decide +kernel
theorem dX6_countMisplaced_21 : decode cX6_countMisplaced 21 = .ok (.iinc 1 1, 3) := by decide +kernel
theorem dX6_countMisplaced_24 : decode cX6_countMisplaced 24 = .ok (.iinc 2 1, 3) := by decide +kernel
theorem dX6_countMisplaced_27 : decode cX6_countMisplaced 27 = .ok (.goto (-23), 3) := by decide +kernel
theorem dX6_countMisplaced_30 : decode cX6_countMisplaced 30 = .ok (.iload_n 1, 1) := by decide +kernel
theorem dX6_countMisplaced_31 : decode cX6_countMisplaced 31 = .ok (.ireturn, 1) := by decide +kernel
theorem dX6_sortedNumber_0 : decode cX6_sortedNumber 0 = .ok (.iconst 0, 1) := by decide +kernel
theorem dX6_sortedNumber_1 : decode cX6_sortedNumber 1 = .ok (.istore_n 2, 1) := by decide +kernel
theorem dX6_sortedNumber_2 : decode cX6_sortedNumber 2 = .ok (.iconst 0, 1) := by decide +kernel
theorem dX6_sortedNumber_3 : decode cX6_sortedNumber 3 = .ok (.istore_n 3, 1) := by decide +kernel
theorem dX6_sortedNumber_4 : decode cX6_sortedNumber 4 = .ok (.iload_n 3, 1) := by decide +kernel
theorem dX6_sortedNumber_5 : decode cX6_sortedNumber 5 = .ok (.aload_n 0, 1) := by decide +kernel
theorem dX6_sortedNumber_6 : decode cX6_sortedNumber 6 = .ok (.getfield 18, 3) := by decide +kernel
theorem dX6_sortedNumber_9 : decode cX6_sortedNumber 9 = .ok (.if_icmp .ge 47, 3) := by decide +kernel
theorem dX6_sortedNumber_12 : decode cX6_sortedNumber 12 = .ok (.aload_n 0, 1) := by decide +kernel
theorem dX6_sortedNumber_13 : decode cX6_sortedNumber 13 = .ok (.getfield 9, 3) := by decide +kernel
theorem dX6_sortedNumber_16 : decode cX6_sortedNumber 16 = .ok (.iload_n 3, 1) := by decide +kernel
theorem dX6_sortedNumber_17 : decode cX6_sortedNumber 17 = .ok (.iaload, 1) := by decide +kernel
theorem dX6_sortedNumber_18 : decode cX6_sortedNumber 18 = .ok (.aload_n 0, 1) := by decide +kernel
theorem dX6_sortedNumber_19 : decode cX6_sortedNumber 19 = .ok (.getfield 9, 3) := by decide +kernel
theorem dX6_sortedNumber_22 : decode cX6_sortedNumber 22 = .ok (.iload_n 1, 1) := by decide +kernel
theorem dX6_sortedNumber_23 : decode cX6_sortedNumber 23 = .ok (.iaload, 1) := by decide +kernel
theorem dX6_sortedNumber_24 : decode cX6_sortedNumber 24 = .ok (.if_icmp .gt 23, 3) := by decide +kernel
theorem dX6_sortedNumber_27 : decode cX6_sortedNumber 27 = .ok (.aload_n 0, 1) := by decide +kernel
theorem dX6_sortedNumber_28 : decode cX6_sortedNumber 28 = .ok (.getfield 9, 3) := by decide +kernel
theorem dX6_sortedNumber_31 : decode cX6_sortedNumber 31 = .ok (.iload_n 3, 1) := by decide +kernel
theorem dX6_sortedNumber_32 : decode cX6_sortedNumber 32 = .ok (.iaload, 1) := by decide +kernel
theorem dX6_sortedNumber_33 : decode cX6_sortedNumber 33 = .ok (.aload_n 0, 1) := by decide +kernel
theorem dX6_sortedNumber_34 : decode cX6_sortedNumber 34 = .ok (.getfield 9, 3) := by decide +kernel
theorem dX6_sortedNumber_37 : decode cX6_sortedNumber 37 = .ok (.iload_n 1, 1) := by decide +kernel
theorem dX6_sortedNumber_38 : decode cX6_sortedNumber 38 = .ok (.iaload, 1) := by decide +kernel
theorem dX6_sortedNumber_39 : decode cX6_sortedNumber 39 = .ok (.if_icmp .ne 11, 3) := by decide +kernel
theorem dX6_sortedNumber_42 : decode cX6_sortedNumber 42 = .ok (.iload_n 3, 1) := by decide +kernel
theorem dX6_sortedNumber_43 : decode cX6_sortedNumber 43 = .ok (.iload_n 1, 1) := by decide +kernel
theorem dX6_sortedNumber_44 : decode cX6_sortedNumber 44 = .ok (.if_icmp .ge 6, 3) := by decide +kernel
theorem dX6_sortedNumber_47 : decode cX6_sortedNumber 47 = .ok (.iinc 2 1, 3) := by decide +kernel
theorem dX6_sortedNumber_50 : decode cX6_sortedNumber 50 = .ok (.iinc 3 1, 3) := by decide +kernel
theorem dX6_sortedNumber_53 : decode cX6_sortedNumber 53 = .ok (.goto (-49), 3) := by decide +kernel
theorem dX6_sortedNumber_56 : decode cX6_sortedNumber 56 = .ok (.iload_n 2, 1) := by decide +kernel
theorem dX6_sortedNumber_57 : decode cX6_sortedNumber 57 = .ok (.ireturn, 1) := by decide +kernel
theorem dX6_sortDescending_0 : decode cX6_sortDescending 0 = .ok (.iconst 1, 1) := by decide +kernel
theorem dX6_sortDescending_1 : decode cX6_sortDescending 1 = .ok (.istore_n 1, 1) := by decide +kernel
theorem dX6_sortDescending_2 : decode cX6_sortDescending 2 = .ok (.iload_n 1, 1) := by decide +kernel
theorem dX6_sortDescending_3 : decode cX6_sortDescending 3 = .ok (.aload_n 0, 1) := by decide +kernel
theorem dX6_sortDescending_4 : decode cX6_sortDescending 4 = .ok (.getfield 18, 3) := by decide +kernel
theorem dX6_sortDescending_7 : decode cX6_sortDescending 7 = .ok (.if_icmp .ge 61, 3) := by decide +kernel
theorem dX6_sortDescending_10 : decode cX6_sortDescending 10 = .ok (.aload_n 0, 1) := by decide +kernel
theorem dX6_sortDescending_11 : decode cX6_sortDescending 11 = .ok (.getfield 9, 3) := by decide +kernel
theorem dX6_sortDescending_14 : decode cX6_sortDescending 14 = .ok (.iload_n 1, 1) := by decide +kernel
theorem dX6_sortDescending_15 : decode cX6_sortDescending 15 = .ok (.iaload, 1) := by decide +kernel
theorem dX6_sortDescending_16 : decode cX6_sortDescending 16 = .ok (.istore_n 2, 1) := by decide +kernel
theorem dX6_sortDescending_17 : decode cX6_sortDescending 17 = .ok (.iload_n 1, 1) := by decide +kernel
theorem dX6_sortDescending_18 : decode cX6_sortDescending 18 = .ok (.istore_n 3, 1) := by decide +kernel
theorem dX6_sortDescending_19 : decode cX6_sortDescending 19 = .ok (.iload_n 3, 1) := by decide +kernel
theorem dX6_sortDescending_20 : decode cX6_sortDescending 20 = .ok (.ifCond .le 35, 3) := by decide +kernel
theorem dX6_sortDescending_23 : decode cX6_sortDescending 23 = .ok (.aload_n 0, 1) := by decide +kernel
theorem dX6_sortDescending_24 : decode cX6_sortDescending 24 = .ok (.getfield 9, 3) := by decide +kernel
theorem dX6_sortDescending_27 : decode cX6_sortDescending 27 = .ok (.iload_n 3, 1) := by decide +kernel
theorem dX6_sortDescending_28 : decode cX6_sortDescending 28 = .ok (.iconst 1, 1) := by decide +kernel
theorem dX6_sortDescending_29 : decode cX6_sortDescending 29 = .ok (.isub, 1) := by decide +kernel
theorem dX6_sortDescending_30 : decode cX6_sortDescending 30 = .ok (.iaload, 1) := by decide +kernel
theorem dX6_sortDescending_31 : decode cX6_sortDescending 31 = .ok (.iload_n 2, 1) := by decide +kernel
theorem dX6_sortDescending_32 : decode cX6_sortDescending 32 = .ok (.if_icmp .ge 23, 3) := by decide +kernel
theorem dX6_sortDescending_35 : decode cX6_sortDescending 35 = .ok (.aload_n 0, 1) := by decide +kernel
theorem dX6_sortDescending_36 : decode cX6_sortDescending 36 = .ok (.getfield 9, 3) := by decide +kernel
theorem dX6_sortDescending_39 : decode cX6_sortDescending 39 = .ok (.iload_n 3, 1) := by decide +kernel
theorem dX6_sortDescending_40 : decode cX6_sortDescending 40 = .ok (.aload_n 0, 1) := by decide +kernel
theorem dX6_sortDescending_41 : decode cX6_sortDescending 41 = .ok (.getfield 9, 3) := by decide +kernel
theorem dX6_sortDescending_44 : decode cX6_sortDescending 44 = .ok (.iload_n 3, 1) := by decide +kernel
theorem dX6_sortDescending_45 : decode cX6_sortDescending 45 = .ok (.iconst 1, 1) := by decide +kernel
theorem dX6_sortDescending_46 : decode cX6_sortDescending 46 = .ok (.isub, 1) := by decide +kernel
theorem dX6_sortDescending_47 : decode cX6_sortDescending 47 = .ok (.iaload, 1) := by decide +kernel
theorem dX6_sortDescending_48 : decode cX6_sortDescending 48 = .ok (.iastore, 1) := by decide +kernel
theorem dX6_sortDescending_49 : decode cX6_sortDescending 49 = .ok (.iinc 3 (-1), 3) := by decide +kernel
theorem dX6_sortDescending_52 : decode cX6_sortDescending 52 = .ok (.goto (-33), 3) := by decide +kernel
theorem dX6_sortDescending_55 : decode cX6_sortDescending 55 = .ok (.aload_n 0, 1) := by decide +kernel
theorem dX6_sortDescending_56 : decode cX6_sortDescending 56 = .ok (.getfield 9, 3) := by decide +kernel
theorem dX6_sortDescending_59 : decode cX6_sortDescending 59 = .ok (.iload_n 3, 1) := by decide +kernel
theorem dX6_sortDescending_60 : decode cX6_sortDescending 60 = .ok (.iload_n 2, 1) := by decide +kernel
theorem dX6_sortDescending_61 : decode cX6_sortDescending 61 = .ok (.iastore, 1) := by decide +kernel
theorem dX6_sortDescending_62 : decode cX6_sortDescending 62 = .ok (.iinc 1 1, 3) := by decide +kernel
theorem dX6_sortDescending_65 : decode cX6_sortDescending 65 = .ok (.goto (-63), 3) := by decide +kernel
theorem dX6_sortDescending_68 : decode cX6_sortDescending 68 = .ok (.return_, 1) := by decide +kernel
theorem dX6_sum_0 : decode cX6_sum 0 = .ok (.iconst 0, 1) := by decide +kernel
theorem dX6_sum_1 : decode cX6_sum 1 = .ok (.istore_n 1, 1) := by decide +kernel
theorem dX6_sum_2 : decode cX6_sum 2 = .ok (.iconst 0, 1) := by decide +kernel
theorem dX6_sum_3 : decode cX6_sum 3 = .ok (.istore_n 2, 1) := by decide +kernel
theorem dX6_sum_4 : decode cX6_sum 4 = .ok (.iload_n 2, 1) := by decide +kernel
theorem dX6_sum_5 : decode cX6_sum 5 = .ok (.aload_n 0, 1) := by decide +kernel
theorem dX6_sum_6 : decode cX6_sum 6 = .ok (.getfield 18, 3) := by decide +kernel
theorem dX6_sum_9 : decode cX6_sum 9 = .ok (.if_icmp .ge 18, 3) := by decide +kernel
theorem dX6_sum_12 : decode cX6_sum 12 = .ok (.iload_n 1, 1) := by decide +kernel
theorem dX6_sum_13 : decode cX6_sum 13 = .ok (.aload_n 0, 1) := by decide +kernel
theorem dX6_sum_14 : decode cX6_sum 14 = .ok (.getfield 9, 3) := by decide +kernel
theorem dX6_sum_17 : decode cX6_sum 17 = .ok (.iload_n 2, 1) := by decide +kernel
theorem dX6_sum_18 : decode cX6_sum 18 = .ok (.iaload, 1) := by decide +kernel
theorem dX6_sum_19 : decode cX6_sum 19 = .ok (.iadd, 1) := by decide +kernel
theorem dX6_sum_20 : decode cX6_sum 20 = .ok (.istore_n 1, 1) := by decide +kernel
theorem dX6_sum_21 : decode cX6_sum 21 = .ok (.iinc 2 1, 3) := by decide +kernel
theorem dX6_sum_24 : decode cX6_sum 24 = .ok (.goto (-20), 3) := by decide +kernel
theorem dX6_sum_27 : decode cX6_sum 27 = .ok (.iload_n 1, 1) := by decide +kernel
theorem dX6_sum_28 : decode cX6_sum 28 = .ok (.ireturn, 1) := by decide +kernel
set_option maxRecDepth 20000 in
theorem ggX7_init_X2_init : GoodIn wsX7_init wsX2_init := goodIn_r _ [25, 26, 2, 3, 27, 28, 29, 30, 31, 32, 33, 34, 35, 36, 37, 38, 39, 40, 41, 42, 43, 44, 45, 46, 47, 48, 49, 50, 51, 52, 53, 54, 55, 56, 57, 58, 84, 85, 86, 87, 88, 89, 90, 105, 106, 107, 108, 109, 110] (by decide +kernel) (by decide +kernel)
set_option maxRecDepth 20000 in
theorem gX7_init_X2_init_n9 : GoodIn wsX7_init (wsX2_init) := ggX7_init_X2_init
set_option maxRecDepth 20000 in
theorem ggX7_init_X1_init : GoodIn wsX7_init wsX1_init := goodIn_r _ [61, 62, 2, 3, 63, 64, 65, 66, 5, 6, 24, 25, 26, 27, 28, 29, 30, 31, 32, 33, 34, 35, 36, 37, 38, 39, 40, 41, 42, 43, 44, 45, 46, 47, 48, 49, 50, 51, 52, 53, 54, 55, 56, 57, 58, 96, 97, 98, 84, 85, 86, 87, 88, 89, 90, 105, 106, 107, 108, 109, 110] (by decide +kernel) (by decide +kernel)
set_option maxRecDepth 20000 in
theorem gX7_init_X1_init : GoodIn wsX7_init (wsX1_init) := ggX7_init_X1_init
set_option maxRecDepth 20000 in
theorem ggX7_init_X5_init : GoodIn wsX7_init wsX5_init := goodIn_r _ [68, 69, 2, 3, 70, 71, 72, 99, 100] (by decide +kernel) (by decide +kernel)
set_option maxRecDepth 20000 in
theorem gX7_init_X5_init_n25 : GoodIn wsX7_init (wsX5_init) := ggX7_init_X5_init
set_option maxRecDepth 20000 in
theorem ggX7_init_X4_init : GoodIn wsX7_init wsX4_init := goodIn_r _ [74, 75, 2, 3, 76, 77, 78, 101, 102, 103] (by decide +kernel) (by decide +kernel)
set_option maxRecDepth 20000 in
theorem gX7_init_X4_init_n32 : GoodIn wsX7_init (wsX4_init) := ggX7_init_X4_init
set_option maxRecDepth 20000 in
theorem ggX7_init_X3_init : GoodIn wsX7_init wsX3_init := goodIn_r _ [80, 81, 2, 3, 82, 83, 104] (by decide +kernel) (by decide +kernel)
set_option maxRecDepth 20000 in
theorem gX7_init_X3_init_n39 : GoodIn wsX7_init (wsX3_init) := ggX7_init_X3_init
theorem dX7_init_0 : decode cX7_init 0 = .ok (.aload_n 0, 1) := by decide +kernel
theorem dX7_init_1 : decode cX7_init 1 = .ok (.invokespecial 1, 3) := by decide +kernel
theorem dX7_init_4 : decode cX7_init 4 = .ok (.aload_n 0, 1) := by decide +kernel
theorem dX7_init_5 : decode cX7_init 5 = .ok (.new 7, 3) := by decide +kernel
theorem dX7_init_8 : decode cX7_init 8 = .ok (.dup, 1) := by decide +kernel
theorem dX7_init_9 : decode cX7_init 9 = .ok (.invokespecial 9, 3) := by decide +kernel
theorem dX7_init_12 : decode cX7_init 12 = .ok (.putfield 10, 3) := by decide +kernel
theorem dX7_init_15 : decode cX7_init 15 = .ok (.aload_n 0, 1) := by decide +kernel
theorem dX7_init_16 : decode cX7_init 16 = .ok (.new 16, 3) := by decide +kernel
theorem dX7_init_19 : decode cX7_init 19 = .ok (.dup, 1) := by decide +kernel
theorem dX7_init_20 : decode cX7_init 20 = .ok (.invokespecial 18, 3) := by decide +kernel
theorem dX7_init_23 : decode cX7_init 23 = .ok (.putfield 19, 3) := by decide +kernel
theorem dX7_init_26 : decode cX7_init 26 = .ok (.aload_n 0, 1) := by decide +kernel
theorem dX7_init_27 : decode cX7_init 27 = .ok (.new 23, 3) := by decide +kernel
theorem dX7_init_30 : decode cX7_init 30 = .ok (.dup, 1) := by decide +kernel
theorem dX7_init_31 : decode cX7_init 31 = .ok (.invokespecial 25, 3) := by decide +kernel
theorem dX7_init_34 : decode cX7_init 34 = .ok (.putfield 26, 3) := by decide +kernel
theorem dX7_init_37 : decode cX7_init 37 = .ok (.aload_n 0, 1) := by decide +kernel
theorem dX7_init_38 : decode cX7_init 38 = .ok (.new 30, 3) := by decide +kernel
theorem dX7_init_41 : decode cX7_init 41 = .ok (.dup, 1) := by decide +kernel
theorem dX7_init_42 : decode cX7_init 42 = .ok (.invokespecial 32, 3) := by decide +kernel
theorem dX7_init_45 : decode cX7_init 45 = .ok (.putfield 33, 3) := by decide +kernel
theorem dX7_init_48 : decode cX7_init 48 = .ok (.aload_n 0, 1) := by decide +kernel
theorem dX7_init_49 : decode cX7_init 49 = .ok (.new 37, 3) := by decide +kernel
theorem dX7_init_52 : decode cX7_init 52 = .ok (.dup, 1) := by decide +kernel
theorem dX7_init_53 : decode cX7_init 53 = .ok (.invokespecial 39, 3) := by decide +kernel
theorem dX7_init_56 : decode cX7_init 56 = .ok (.putfield 40, 3) := by decide +kernel
theorem dX7_init_59 : decode cX7_init 59 = .ok (.return_, 1) := by decide +kernel
set_option maxRecDepth 20000 in
theorem ggX7_sample_X7_requireArgument : GoodIn wsX7_sample wsX7_requireArgument := goodIn_ca (goodIn_r _ [9, 10, 11] (by decide +kernel) (by decide +kernel)) (goodIn_sub (fun _ h => List.mem_cons_of_mem _ (List.mem_append_right _ h)) (by decide +kernel))
set_option maxRecDepth 20000 in
theorem gX7_sample_X7_requireArgument : GoodIn wsX7_sample (va_wsS RX7 45 yX7_requireArgument wsX7_requireArgument) := goodIn_app (goodIn_of _ (by decide +kernel)) ggX7_sample_X7_requireArgument
set_option maxRecDepth 20000 in
theorem ggX7_sample_X1_push : GoodIn wsX7_sample wsX1_push := goodIn_r _ [16, 17, 18, 19, 20, 21, 22, 23, 24, 25, 26, 27, 28, 29, 30, 31, 32, 33, 34, 35, 36, 37, 38, 39, 40, 41, 42, 43, 44, 45, 46, 47, 48, 49, 50, 51, 52, 53, 54, 55, 56, 72, 73, 74, 65, 66, 67, 68, 69, 70, 71, 75, 76, 77, 78, 79, 80] (by decide +kernel) (by decide +kernel)
set_option maxRecDepth 20000 in
theorem gX7_sample_X1_push : GoodIn wsX7_sample (wsV RX7 49 RX1 yX1_push wsX1_push) := goodIn_app (goodIn_of _ (by decide +kernel)) ggX7_sample_X1_push
set_option maxRecDepth 20000 in
theorem ggX7_sample_X7_afterSampleTick : GoodIn wsX7_sample wsX7_afterSampleTick := goodIn_r _ [59] (by decide +kernel) (by decide +kernel)
set_option maxRecDepth 20000 in
theorem gX7_sample_X7_afterSampleTick : GoodIn wsX7_sample (va_wsS RX7 60 yX7_afterSampleTick wsX7_afterSampleTick) := goodIn_app (goodIn_of _ (by decide +kernel)) ggX7_sample_X7_afterSampleTick
theorem dX7_sample_0 : decode cX7_sample 0 = .ok (.iload_n 1, 1) := by decide +kernel
theorem dX7_sample_1 : decode cX7_sample 1 = .ok (.iconst 0, 1) := by decide +kernel
theorem dX7_sample_2 : decode cX7_sample 2 = .ok (.ldc 44, 2) := by decide +kernel
theorem dX7_sample_4 : decode cX7_sample 4 = .ok (.invokestatic 45, 3) := by decide +kernel
theorem dX7_sample_7 : decode cX7_sample 7 = .ok (.iload_n 2, 1) := by decide +kernel
theorem dX7_sample_8 : decode cX7_sample 8 = .ok (.iconst 1, 1) := by decide +kernel
theorem dX7_sample_9 : decode cX7_sample 9 = .ok (.bipush 99, 2) := by decide +kernel
theorem dX7_sample_11 : decode cX7_sample 11 = .ok (.invokestatic 45, 3) := by decide +kernel
theorem dX7_sample_14 : decode cX7_sample 14 = .ok (.aload_n 0, 1) := by decide +kernel
theorem dX7_sample_15 : decode cX7_sample 15 = .ok (.getfield 19, 3) := by decide +kernel
theorem dX7_sample_18 : decode cX7_sample 18 = .ok (.aload_n 0, 1) := by decide +kernel
theorem dX7_sample_19 : decode cX7_sample 19 = .ok (.getfield 10, 3) := by decide +kernel
theorem dX7_sample_22 : decode cX7_sample 22 = .ok (.invokevirtual 49, 3) := by decide +kernel
theorem dX7_sample_25 : decode cX7_sample 25 = .ok (.iconst 0, 1) := by decide +kernel
theorem dX7_sample_26 : decode cX7_sample 26 = .ok (.istore_n 3, 1) := by decide +kernel
theorem dX7_sample_27 : decode cX7_sample 27 = .ok (.iload_n 3, 1) := by decide +kernel
theorem dX7_sample_28 : decode cX7_sample 28 = .ok (.iload_n 2, 1) := by decide +kernel
theorem dX7_sample_29 : decode cX7_sample 29 = .ok (.if_icmp .ge 34, 3) := by decide +kernel
theorem dX7_sample_32 : decode cX7_sample 32 = .ok (.aload_n 0, 1) := by decide +kernel
theorem dX7_sample_33 : decode cX7_sample 33 = .ok (.getfield 10, 3) := by decide +kernel
theorem dX7_sample_36 : decode cX7_sample 36 = .ok (.aload_n 0, 1) := by decide +kernel
theorem dX7_sample_37 : decode cX7_sample 37 = .ok (.getfield 10, 3) := by decide +kernel
theorem dX7_sample_40 : decode cX7_sample 40 = .ok (.getfield 53, 3) := by decide +kernel
theorem dX7_sample_43 : decode cX7_sample 43 = .ok (.iload_n 1, 1) := by decide +kernel
theorem dX7_sample_44 : decode cX7_sample 44 = .ok (.aload_n 0, 1) := by decide +kernel
theorem dX7_sample_45 : decode cX7_sample 45 = .ok (.getfield 10, 3) := by decide +kernel
theorem dX7_sample_48 : decode cX7_sample 48 = .ok (.getfield 57, 3) := by decide +kernel
theorem dX7_sample_51 : decode cX7_sample 51 = .ok (.invokestatic 60, 3) := by decide +kernel
theorem dX7_sample_54 : decode cX7_sample 54 = .ok (.putfield 53, 3) := by decide +kernel
theorem dX7_sample_57 : decode cX7_sample 57 = .ok (.iinc 3 1, 3) := by decide +kernel
theorem dX7_sample_60 : decode cX7_sample 60 = .ok (.goto (-33), 3) := by decide +kernel
theorem dX7_sample_63 : decode cX7_sample 63 = .ok (.aload_n 0, 1) := by decide +kernel
theorem dX7_sample_64 : decode cX7_sample 64 = .ok (.getfield 10, 3) := by decide +kernel
theorem dX7_sample_67 : decode cX7_sample 67 = .ok (.getfield 53, 3) := by decide +kernel
theorem dX7_sample_70 : decode cX7_sample 70 = .ok (.ireturn, 1) := by decide +kernel
set_option maxRecDepth 20000 in
theorem ggX7_hold_X7_requireArgument : GoodIn wsX7_hold wsX7_requireArgument := goodIn_ca (goodIn_r _ [8, 9, 10] (by decide +kernel) (by decide +kernel)) (goodIn_sub (fun _ h => List.mem_cons_of_mem _ (List.mem_append_right _ h)) (by decide +kernel))
set_option maxRecDepth 20000 in
theorem gX7_hold_X7_requireArgument : GoodIn wsX7_hold (va_wsS RX7 45 yX7_requireArgument wsX7_requireArgument) := goodIn_app (goodIn_of _ (by decide +kernel)) ggX7_hold_X7_requireArgument
set_option maxRecDepth 20000 in
theorem ggX7_hold_X1_push : GoodIn wsX7_hold wsX1_push := goodIn_r _ [15, 16, 17, 18, 19, 20, 21, 22, 23, 24, 25, 26, 27, 28, 29, 30, 31, 32, 33, 34, 35, 36, 37, 38, 39, 40, 41, 42, 43, 44, 45, 46, 47, 48, 49, 50, 51, 52, 53, 54, 55, 71, 72, 73, 64, 65, 66, 67, 68, 69, 70, 74, 75, 76, 77, 78, 79] (by decide +kernel) (by decide +kernel)
set_option maxRecDepth 20000 in
theorem gX7_hold_X1_push : GoodIn wsX7_hold (wsV RX7 49 RX1 yX1_push wsX1_push) := goodIn_app (goodIn_of _ (by decide +kernel)) ggX7_hold_X1_push
set_option maxRecDepth 20000 in
theorem ggX7_hold_X7_afterHoldTick : GoodIn wsX7_hold wsX7_afterHoldTick := goodIn_r _ [58] (by decide +kernel) (by decide +kernel)
set_option maxRecDepth 20000 in
theorem gX7_hold_X7_afterHoldTick : GoodIn wsX7_hold (va_wsS RX7 67 yX7_afterHoldTick wsX7_afterHoldTick) := goodIn_app (goodIn_of _ (by decide +kernel)) ggX7_hold_X7_afterHoldTick
theorem dX7_hold_0 : decode cX7_hold 0 = .ok (.iload_n 1, 1) := by decide +kernel
theorem dX7_hold_1 : decode cX7_hold 1 = .ok (.iconst 1, 1) := by decide +kernel
theorem dX7_hold_2 : decode cX7_hold 2 = .ok (.bipush 99, 2) := by decide +kernel
theorem dX7_hold_4 : decode cX7_hold 4 = .ok (.invokestatic 45, 3) := by decide +kernel
theorem dX7_hold_7 : decode cX7_hold 7 = .ok (.aload_n 0, 1) := by decide +kernel
theorem dX7_hold_8 : decode cX7_hold 8 = .ok (.getfield 19, 3) := by decide +kernel
theorem dX7_hold_11 : decode cX7_hold 11 = .ok (.aload_n 0, 1) := by decide +kernel
theorem dX7_hold_12 : decode cX7_hold 12 = .ok (.getfield 10, 3) := by decide +kernel
theorem dX7_hold_15 : decode cX7_hold 15 = .ok (.invokevirtual 49, 3) := by decide +kernel
theorem dX7_hold_18 : decode cX7_hold 18 = .ok (.iconst 0, 1) := by decide +kernel
theorem dX7_hold_19 : decode cX7_hold 19 = .ok (.istore_n 2, 1) := by decide +kernel
theorem dX7_hold_20 : decode cX7_hold 20 = .ok (.iload_n 2, 1) := by decide +kernel
theorem dX7_hold_21 : decode cX7_hold 21 = .ok (.iload_n 1, 1) := by decide +kernel
theorem dX7_hold_22 : decode cX7_hold 22 = .ok (.if_icmp .ge 33, 3) := by decide +kernel
theorem dX7_hold_25 : decode cX7_hold 25 = .ok (.aload_n 0, 1) := by decide +kernel
theorem dX7_hold_26 : decode cX7_hold 26 = .ok (.getfield 10, 3) := by decide +kernel
theorem dX7_hold_29 : decode cX7_hold 29 = .ok (.aload_n 0, 1) := by decide +kernel
theorem dX7_hold_30 : decode cX7_hold 30 = .ok (.getfield 10, 3) := by decide +kernel
theorem dX7_hold_33 : decode cX7_hold 33 = .ok (.getfield 53, 3) := by decide +kernel
theorem dX7_hold_36 : decode cX7_hold 36 = .ok (.aload_n 0, 1) := by decide +kernel
theorem dX7_hold_37 : decode cX7_hold 37 = .ok (.getfield 10, 3) := by decide +kernel
theorem dX7_hold_40 : decode cX7_hold 40 = .ok (.getfield 64, 3) := by decide +kernel
theorem dX7_hold_43 : decode cX7_hold 43 = .ok (.invokestatic 67, 3) := by decide +kernel
theorem dX7_hold_46 : decode cX7_hold 46 = .ok (.putfield 53, 3) := by decide +kernel
theorem dX7_hold_49 : decode cX7_hold 49 = .ok (.iinc 2 1, 3) := by decide +kernel
theorem dX7_hold_52 : decode cX7_hold 52 = .ok (.goto (-32), 3) := by decide +kernel
theorem dX7_hold_55 : decode cX7_hold 55 = .ok (.aload_n 0, 1) := by decide +kernel
theorem dX7_hold_56 : decode cX7_hold 56 = .ok (.getfield 10, 3) := by decide +kernel
theorem dX7_hold_59 : decode cX7_hold 59 = .ok (.getfield 53, 3) := by decide +kernel
theorem dX7_hold_62 : decode cX7_hold 62 = .ok (.ireturn, 1) := by decide +kernel
theorem dX7_voltage_0 : decode cX7_voltage 0 = .ok (.aload_n 0, 1) := by decide +kernel
theorem dX7_voltage_1 : decode cX7_voltage 1 = .ok (.getfield 10, 3) := by decide +kernel
theorem dX7_voltage_4 : decode cX7_voltage 4 = .ok (.getfield 53, 3) := by decide +kernel
theorem dX7_voltage_7 : decode cX7_voltage 7 = .ok (.ireturn, 1) := by decide +kernel
set_option maxRecDepth 20000 in
theorem ggX7_setCapacitor_X7_requireArgument : GoodIn wsX7_setCapacitor wsX7_requireArgument := goodIn_ca (goodIn_r _ [8, 9, 10] (by decide +kernel) (by decide +kernel)) (goodIn_sub (fun _ h => List.mem_cons_of_mem _ (List.mem_append_right _ h)) (by decide +kernel))
set_option maxRecDepth 20000 in
theorem gX7_setCapacitor_X7_requireArgument : GoodIn wsX7_setCapacitor (va_wsS RX7 45 yX7_requireArgument wsX7_requireArgument) := goodIn_app (goodIn_of _ (by decide +kernel)) ggX7_setCapacitor_X7_requireArgument
set_option maxRecDepth 20000 in
theorem ggX7_setCapacitor_X1_push : GoodIn wsX7_setCapacitor wsX1_push := goodIn_r _ [15, 16, 17, 18, 19, 20, 21, 22, 23, 24, 25, 26, 27, 28, 29, 30, 31, 32, 33, 34, 35, 36, 37, 38, 39, 40, 41, 42, 43, 44, 45, 46, 47, 48, 49, 50, 51, 52, 53, 54, 55, 68, 69, 70, 61, 62, 63, 64, 65, 66, 67, 71, 72, 73, 74, 75, 76] (by decide +kernel) (by decide +kernel)
set_option maxRecDepth 20000 in
theorem gX7_setCapacitor_X1_push : GoodIn wsX7_setCapacitor (wsV RX7 49 RX1 yX1_push wsX1_push) := goodIn_app (goodIn_of _ (by decide +kernel)) ggX7_setCapacitor_X1_push
theorem dX7_setCapacitor_0 : decode cX7_setCapacitor 0 = .ok (.iload_n 1, 1) := by decide +kernel
theorem dX7_setCapacitor_1 : decode cX7_setCapacitor 1 = .ok (.iconst 1, 1) := by decide +kernel
theorem dX7_setCapacitor_2 : decode cX7_setCapacitor 2 = .ok (.bipush 16, 2) := by decide +kernel
theorem dX7_setCapacitor_4 : decode cX7_setCapacitor 4 = .ok (.invokestatic 45, 3) := by decide +kernel
theorem dX7_setCapacitor_7 : decode cX7_setCapacitor 7 = .ok (.iload_n 2, 1) := by decide +kernel
theorem dX7_setCapacitor_8 : decode cX7_setCapacitor 8 = .ok (.iconst 0, 1) := by decide +kernel
theorem dX7_setCapacitor_9 : decode cX7_setCapacitor 9 = .ok (.bipush 64, 2) := by decide +kernel
theorem dX7_setCapacitor_11 : decode cX7_setCapacitor 11 = .ok (.invokestatic 45, 3) := by decide +kernel
theorem dX7_setCapacitor_14 : decode cX7_setCapacitor 14 = .ok (.aload_n 0, 1) := by decide +kernel
theorem dX7_setCapacitor_15 : decode cX7_setCapacitor 15 = .ok (.getfield 19, 3) := by decide +kernel
theorem dX7_setCapacitor_18 : decode cX7_setCapacitor 18 = .ok (.aload_n 0, 1) := by decide +kernel
theorem dX7_setCapacitor_19 : decode cX7_setCapacitor 19 = .ok (.getfield 10, 3) := by decide +kernel
theorem dX7_setCapacitor_22 : decode cX7_setCapacitor 22 = .ok (.invokevirtual 49, 3) := by decide +kernel
theorem dX7_setCapacitor_25 : decode cX7_setCapacitor 25 = .ok (.aload_n 0, 1) := by decide +kernel
theorem dX7_setCapacitor_26 : decode cX7_setCapacitor 26 = .ok (.getfield 10, 3) := by decide +kernel
theorem dX7_setCapacitor_29 : decode cX7_setCapacitor 29 = .ok (.getfield 57, 3) := by decide +kernel
theorem dX7_setCapacitor_32 : decode cX7_setCapacitor 32 = .ok (.istore_n 3, 1) := by decide +kernel
theorem dX7_setCapacitor_33 : decode cX7_setCapacitor 33 = .ok (.aload_n 0, 1) := by decide +kernel
theorem dX7_setCapacitor_34 : decode cX7_setCapacitor 34 = .ok (.getfield 10, 3) := by decide +kernel
theorem dX7_setCapacitor_37 : decode cX7_setCapacitor 37 = .ok (.iload_n 1, 1) := by decide +kernel
theorem dX7_setCapacitor_38 : decode cX7_setCapacitor 38 = .ok (.putfield 57, 3) := by decide +kernel
theorem dX7_setCapacitor_41 : decode cX7_setCapacitor 41 = .ok (.aload_n 0, 1) := by decide +kernel
theorem dX7_setCapacitor_42 : decode cX7_setCapacitor 42 = .ok (.getfield 10, 3) := by decide +kernel
theorem dX7_setCapacitor_45 : decode cX7_setCapacitor 45 = .ok (.iload_n 2, 1) := by decide +kernel
theorem dX7_setCapacitor_46 : decode cX7_setCapacitor 46 = .ok (.putfield 64, 3) := by decide +kernel
theorem dX7_setCapacitor_49 : decode cX7_setCapacitor 49 = .ok (.iload_n 3, 1) := by decide +kernel
theorem dX7_setCapacitor_50 : decode cX7_setCapacitor 50 = .ok (.ireturn, 1) := by decide +kernel
set_option maxRecDepth 20000 in
theorem ggX7_setOffset_X7_requireArgument : GoodIn wsX7_setOffset wsX7_requireArgument := goodIn_ca (goodIn_r _ [7, 8, 9] (by decide +kernel) (by decide +kernel)) (goodIn_sub (fun _ h => List.mem_cons_of_mem _ (List.mem_append_right _ h)) (by decide +kernel))
set_option maxRecDepth 20000 in
theorem gX7_setOffset_X7_requireArgument : GoodIn wsX7_setOffset (va_wsS RX7 45 yX7_requireArgument wsX7_requireArgument) := goodIn_app (goodIn_of _ (by decide +kernel)) ggX7_setOffset_X7_requireArgument
set_option maxRecDepth 20000 in
theorem ggX7_setOffset_X1_push : GoodIn wsX7_setOffset wsX1_push := goodIn_r _ [14, 15, 16, 17, 18, 19, 20, 21, 22, 23, 24, 25, 26, 27, 28, 29, 30, 31, 32, 33, 34, 35, 36, 37, 38, 39, 40, 41, 42, 43, 44, 45, 46, 47, 48, 49, 50, 51, 52, 53, 54, 67, 68, 69, 60, 61, 62, 63, 64, 65, 66, 70, 71, 72, 73, 74, 75] (by decide +kernel) (by decide +kernel)
set_option maxRecDepth 20000 in
theorem gX7_setOffset_X1_push : GoodIn wsX7_setOffset (wsV RX7 49 RX1 yX1_push wsX1_push) := goodIn_app (goodIn_of _ (by decide +kernel)) ggX7_setOffset_X1_push
theorem dX7_setOffset_0 : decode cX7_setOffset 0 = .ok (.iload_n 1, 1) := by decide +kernel
theorem dX7_setOffset_1 : decode cX7_setOffset 1 = .ok (.bipush (-64), 2) := by decide +kernel
theorem dX7_setOffset_3 : decode cX7_setOffset 3 = .ok (.bipush 64, 2) := by decide +kernel
theorem dX7_setOffset_5 : decode cX7_setOffset 5 = .ok (.invokestatic 45, 3) := by decide +kernel
theorem dX7_setOffset_8 : decode cX7_setOffset 8 = .ok (.aload_n 0, 1) := by decide +kernel
theorem dX7_setOffset_9 : decode cX7_setOffset 9 = .ok (.getfield 19, 3) := by decide +kernel
theorem dX7_setOffset_12 : decode cX7_setOffset 12 = .ok (.aload_n 0, 1) := by decide +kernel
theorem dX7_setOffset_13 : decode cX7_setOffset 13 = .ok (.getfield 10, 3) := by decide +kernel
theorem dX7_setOffset_16 : decode cX7_setOffset 16 = .ok (.invokevirtual 49, 3) := by decide +kernel
theorem dX7_setOffset_19 : decode cX7_setOffset 19 = .ok (.aload_n 0, 1) := by decide +kernel
theorem dX7_setOffset_20 : decode cX7_setOffset 20 = .ok (.getfield 10, 3) := by decide +kernel
theorem dX7_setOffset_23 : decode cX7_setOffset 23 = .ok (.getfield 71, 3) := by decide +kernel
theorem dX7_setOffset_26 : decode cX7_setOffset 26 = .ok (.istore_n 2, 1) := by decide +kernel
theorem dX7_setOffset_27 : decode cX7_setOffset 27 = .ok (.aload_n 0, 1) := by decide +kernel
theorem dX7_setOffset_28 : decode cX7_setOffset 28 = .ok (.getfield 10, 3) := by decide +kernel
theorem dX7_setOffset_31 : decode cX7_setOffset 31 = .ok (.iload_n 1, 1) := by decide +kernel
theorem dX7_setOffset_32 : decode cX7_setOffset 32 = .ok (.putfield 71, 3) := by decide +kernel
theorem dX7_setOffset_35 : decode cX7_setOffset 35 = .ok (.iload_n 2, 1) := by decide +kernel
theorem dX7_setOffset_36 : decode cX7_setOffset 36 = .ok (.ireturn, 1) := by decide +kernel
set_option maxRecDepth 20000 in
theorem ggX7_setGlitch_X7_requireNumber : GoodIn wsX7_setGlitch wsX7_requireNumber := goodIn_ca (goodIn_r _ [7, 8, 9] (by decide +kernel) (by decide +kernel)) (goodIn_sub (fun _ h => List.mem_cons_of_mem _ (List.mem_append_right _ h)) (by decide +kernel))
set_option maxRecDepth 20000 in
theorem gX7_setGlitch_X7_requireNumber : GoodIn wsX7_setGlitch (va_wsS RX7 74 yX7_requireNumber wsX7_requireNumber) := goodIn_app (goodIn_of _ (by decide +kernel)) ggX7_setGlitch_X7_requireNumber
set_option maxRecDepth 20000 in
theorem ggX7_setGlitch_X1_push : GoodIn wsX7_setGlitch wsX1_push := goodIn_r _ [14, 15, 16, 17, 18, 19, 20, 21, 22, 23, 24, 25, 26, 27, 28, 29, 30, 31, 32, 33, 34, 35, 36, 37, 38, 39, 40, 41, 42, 43, 44, 45, 46, 47, 48, 49, 50, 51, 52, 53, 54, 70, 71, 72, 63, 64, 65, 66, 67, 68, 69, 73, 74, 75, 76, 77, 78] (by decide +kernel) (by decide +kernel)
set_option maxRecDepth 20000 in
theorem gX7_setGlitch_X1_push : GoodIn wsX7_setGlitch (wsV RX7 49 RX1 yX1_push wsX1_push) := goodIn_app (goodIn_of _ (by decide +kernel)) ggX7_setGlitch_X1_push
set_option maxRecDepth 20000 in
theorem ggX7_setGlitch_X7_hasBit : GoodIn wsX7_setGlitch wsX7_hasBit := goodIn_r _ [57] (by decide +kernel) (by decide +kernel)
set_option maxRecDepth 20000 in
theorem gX7_setGlitch_X7_hasBit : GoodIn wsX7_setGlitch (va_wsS RX7 81 yX7_hasBit wsX7_hasBit) := goodIn_app (goodIn_of _ (by decide +kernel)) ggX7_setGlitch_X7_hasBit
theorem dX7_setGlitch_0 : decode cX7_setGlitch 0 = .ok (.iload_n 1, 1) := by decide +kernel
theorem dX7_setGlitch_1 : decode cX7_setGlitch 1 = .ok (.bipush 12, 2) := by decide +kernel
theorem dX7_setGlitch_3 : decode cX7_setGlitch 3 = .ok (.invokestatic 74, 3) := by decide +kernel
theorem dX7_setGlitch_6 : decode cX7_setGlitch 6 = .ok (.aload_n 0, 1) := by decide +kernel
theorem dX7_setGlitch_7 : decode cX7_setGlitch 7 = .ok (.getfield 19, 3) := by decide +kernel
theorem dX7_setGlitch_10 : decode cX7_setGlitch 10 = .ok (.aload_n 0, 1) := by decide +kernel
theorem dX7_setGlitch_11 : decode cX7_setGlitch 11 = .ok (.getfield 10, 3) := by decide +kernel
theorem dX7_setGlitch_14 : decode cX7_setGlitch 14 = .ok (.invokevirtual 49, 3) := by decide +kernel
theorem dX7_setGlitch_17 : decode cX7_setGlitch 17 = .ok (.aload_n 0, 1) := by decide +kernel
theorem dX7_setGlitch_18 : decode cX7_setGlitch 18 = .ok (.getfield 10, 3) := by decide +kernel
theorem dX7_setGlitch_21 : decode cX7_setGlitch 21 = .ok (.getfield 78, 3) := by decide +kernel
theorem dX7_setGlitch_24 : decode cX7_setGlitch 24 = .ok (.iload_n 1, 1) := by decide +kernel
theorem dX7_setGlitch_25 : decode cX7_setGlitch 25 = .ok (.invokestatic 81, 3) := by decide +kernel
theorem dX7_setGlitch_28 : decode cX7_setGlitch 28 = .ok (.istore_n 2, 1) := by decide +kernel
theorem dX7_setGlitch_29 : decode cX7_setGlitch 29 = .ok (.aload_n 0, 1) := by decide +kernel
theorem dX7_setGlitch_30 : decode cX7_setGlitch 30 = .ok (.getfield 10, 3) := by decide +kernel
theorem dX7_setGlitch_33 : decode cX7_setGlitch 33 = .ok (.dup, 1) := by decide +kernel
theorem dX7_setGlitch_34 : decode cX7_setGlitch 34 = .ok (.getfield 78, 3) := by decide +kernel
theorem dX7_setGlitch_37 : decode cX7_setGlitch 37 = .ok (.iconst 1, 1) := by decide +kernel
theorem dX7_setGlitch_38 : decode cX7_setGlitch 38 = .ok (.iload_n 1, 1) := by decide +kernel
theorem dX7_setGlitch_39 : decode cX7_setGlitch 39 = .ok (.ishl, 1) := by decide +kernel
theorem dX7_setGlitch_40 : decode cX7_setGlitch 40 = .ok (.ior, 1) := by decide +kernel
theorem dX7_setGlitch_41 : decode cX7_setGlitch 41 = .ok (.putfield 78, 3) := by decide +kernel
theorem dX7_setGlitch_44 : decode cX7_setGlitch 44 = .ok (.iload_n 2, 1) := by decide +kernel
theorem dX7_setGlitch_45 : decode cX7_setGlitch 45 = .ok (.ireturn, 1) := by decide +kernel
set_option maxRecDepth 20000 in
theorem ggX7_setWeight_X7_requireNumber : GoodIn wsX7_setWeight wsX7_requireNumber := goodIn_ca (goodIn_r _ [9, 10, 11] (by decide +kernel) (by decide +kernel)) (goodIn_sub (fun _ h => List.mem_cons_of_mem _ (List.mem_append_left _ (List.mem_append_right _ h))) (by decide +kernel))
set_option maxRecDepth 20000 in
theorem gX7_setWeight_X7_requireNumber : GoodIn wsX7_setWeight (va_wsS RX7 74 yX7_requireNumber wsX7_requireNumber) := goodIn_app (goodIn_of _ (by decide +kernel)) ggX7_setWeight_X7_requireNumber
set_option maxRecDepth 20000 in
theorem ggX7_setWeight_X7_requireArgument : GoodIn wsX7_setWeight wsX7_requireArgument := goodIn_ca (goodIn_r _ [14, 15, 16] (by decide +kernel) (by decide +kernel)) (goodIn_sub (fun _ h => List.mem_cons_of_mem _ (List.mem_append_right _ h)) (by decide +kernel))
set_option maxRecDepth 20000 in
theorem gX7_setWeight_X7_requireArgument : GoodIn wsX7_setWeight (va_wsS RX7 45 yX7_requireArgument wsX7_requireArgument) := goodIn_app (goodIn_of _ (by decide +kernel)) ggX7_setWeight_X7_requireArgument
set_option maxRecDepth 20000 in
theorem ggX7_setWeight_X1_push : GoodIn wsX7_setWeight wsX1_push := goodIn_r _ [21, 22, 23, 24, 25, 26, 27, 28, 29, 30, 31, 32, 33, 34, 35, 36, 37, 38, 39, 40, 41, 42, 43, 44, 45, 46, 47, 48, 49, 50, 51, 52, 53, 54, 55, 56, 57, 58, 59, 60, 61, 76, 77, 78, 67, 68, 69, 70, 71, 72, 73, 74, 75, 79, 80, 81, 82] (by decide +kernel) (by decide +kernel)
set_option maxRecDepth 20000 in
theorem gX7_setWeight_X1_push : GoodIn wsX7_setWeight (wsV RX7 49 RX1 yX1_push wsX1_push) := goodIn_app (goodIn_of _ (by decide +kernel)) ggX7_setWeight_X1_push
theorem dX7_setWeight_0 : decode cX7_setWeight 0 = .ok (.iload_n 1, 1) := by decide +kernel
theorem dX7_setWeight_1 : decode cX7_setWeight 1 = .ok (.aload_n 0, 1) := by decide +kernel
theorem dX7_setWeight_2 : decode cX7_setWeight 2 = .ok (.getfield 10, 3) := by decide +kernel
theorem dX7_setWeight_5 : decode cX7_setWeight 5 = .ok (.getfield 85, 3) := by decide +kernel
theorem dX7_setWeight_8 : decode cX7_setWeight 8 = .ok (.getfield 89, 3) := by decide +kernel
theorem dX7_setWeight_11 : decode cX7_setWeight 11 = .ok (.invokestatic 74, 3) := by decide +kernel
theorem dX7_setWeight_14 : decode cX7_setWeight 14 = .ok (.iload_n 2, 1) := by decide +kernel
theorem dX7_setWeight_15 : decode cX7_setWeight 15 = .ok (.iconst 1, 1) := by decide +kernel
theorem dX7_setWeight_16 : decode cX7_setWeight 16 = .ok (.sipush 2048, 3) := by decide +kernel
theorem dX7_setWeight_19 : decode cX7_setWeight 19 = .ok (.invokestatic 45, 3) := by decide +kernel
theorem dX7_setWeight_22 : decode cX7_setWeight 22 = .ok (.aload_n 0, 1) := by decide +kernel
theorem dX7_setWeight_23 : decode cX7_setWeight 23 = .ok (.getfield 19, 3) := by decide +kernel
theorem dX7_setWeight_26 : decode cX7_setWeight 26 = .ok (.aload_n 0, 1) := by decide +kernel
theorem dX7_setWeight_27 : decode cX7_setWeight 27 = .ok (.getfield 10, 3) := by decide +kernel
theorem dX7_setWeight_30 : decode cX7_setWeight 30 = .ok (.invokevirtual 49, 3) := by decide +kernel
theorem dX7_setWeight_33 : decode cX7_setWeight 33 = .ok (.aload_n 0, 1) := by decide +kernel
theorem dX7_setWeight_34 : decode cX7_setWeight 34 = .ok (.getfield 10, 3) := by decide +kernel
theorem dX7_setWeight_37 : decode cX7_setWeight 37 = .ok (.getfield 85, 3) := by decide +kernel
theorem dX7_setWeight_40 : decode cX7_setWeight 40 = .ok (.getfield 94, 3) := by decide +kernel
theorem dX7_setWeight_43 : decode cX7_setWeight 43 = .ok (.iload_n 1, 1) := by decide +kernel
theorem dX7_setWeight_44 : decode cX7_setWeight 44 = .ok (.iaload, 1) := by decide +kernel
theorem dX7_setWeight_45 : decode cX7_setWeight 45 = .ok (.istore_n 3, 1) := by decide +kernel
theorem dX7_setWeight_46 : decode cX7_setWeight 46 = .ok (.aload_n 0, 1) := by decide +kernel
theorem dX7_setWeight_47 : decode cX7_setWeight 47 = .ok (.getfield 10, 3) := by decide +kernel
theorem dX7_setWeight_50 : decode cX7_setWeight 50 = .ok (.getfield 85, 3) := by decide +kernel
theorem dX7_setWeight_53 : decode cX7_setWeight 53 = .ok (.getfield 94, 3) := by decide +kernel
theorem dX7_setWeight_56 : decode cX7_setWeight 56 = .ok (.iload_n 1, 1) := by decide +kernel
theorem dX7_setWeight_57 : decode cX7_setWeight 57 = .ok (.iload_n 2, 1) := by decide +kernel
theorem dX7_setWeight_58 : decode cX7_setWeight 58 = .ok (.iastore, 1) := by decide +kernel
theorem dX7_setWeight_59 : decode cX7_setWeight 59 = .ok (.iload_n 3, 1) := by decide +kernel
theorem dX7_setWeight_60 : decode cX7_setWeight 60 = .ok (.ireturn, 1) := by decide +kernel
set_option maxRecDepth 20000 in
theorem ggX7_insertWeight_X7_requireNumber : GoodIn wsX7_insertWeight wsX7_requireNumber := goodIn_ca (goodIn_r _ [10, 11, 12] (by decide +kernel) (by decide +kernel)) (goodIn_sub (fun _ h => List.mem_cons_of_mem _ (List.mem_append_left _ (List.mem_append_right _ h))) (by decide +kernel))
set_option maxRecDepth 20000 in
theorem gX7_insertWeight_X7_requireNumber : GoodIn wsX7_insertWeight (va_wsS RX7 74 yX7_requireNumber wsX7_requireNumber) := goodIn_app (goodIn_of _ (by decide +kernel)) ggX7_insertWeight_X7_requireNumber
set_option maxRecDepth 20000 in
theorem ggX7_insertWeight_X7_requireArgument : GoodIn wsX7_insertWeight wsX7_requireArgument := goodIn_ca (goodIn_r _ [15, 16, 17] (by decide +kernel) (by decide +kernel)) (goodIn_sub (fun _ h => List.mem_cons_of_mem _ (List.mem_append_right _ h)) (by decide +kernel))
set_option maxRecDepth 20000 in
theorem gX7_insertWeight_X7_requireArgument : GoodIn wsX7_insertWeight (va_wsS RX7 45 yX7_requireArgument wsX7_requireArgument) := goodIn_app (goodIn_of _ (by decide +kernel)) ggX7_insertWeight_X7_requireArgument
set_option maxRecDepth 20000 in
theorem ggX7_insertWeight_X1_push : GoodIn wsX7_insertWeight wsX1_push := goodIn_r _ [22, 23, 24, 25, 26, 27, 28, 29, 30, 31, 32, 33, 34, 35, 36, 37, 38, 39, 40, 41, 42, 43, 44, 45, 46, 47, 48, 49, 50, 51, 52, 53, 54, 55, 56, 57, 58, 59, 60, 61, 62, 81, 82, 83, 72, 73, 74, 75, 76, 77, 78, 79, 80, 84, 85, 86, 87] (by decide +kernel) (by decide +kernel)
set_option maxRecDepth 20000 in
theorem gX7_insertWeight_X1_push : GoodIn wsX7_insertWeight (wsV RX7 49 RX1 yX1_push wsX1_push) := goodIn_app (goodIn_of _ (by decide +kernel)) ggX7_insertWeight_X1_push
set_option maxRecDepth 20000 in
theorem ggX7_insertWeight_X6_putIn : GoodIn wsX7_insertWeight wsX6_putIn := goodIn_r _ [66, 52, 47, 79, 80] (by decide +kernel) (by decide +kernel)
set_option maxRecDepth 20000 in
theorem gX7_insertWeight_X6_putIn : GoodIn wsX7_insertWeight (wsV RX7 105 RX6 yX6_putIn wsX6_putIn) := goodIn_app (goodIn_of _ (by decide +kernel)) ggX7_insertWeight_X6_putIn
theorem dX7_insertWeight_0 : decode cX7_insertWeight 0 = .ok (.iload_n 1, 1) := by decide +kernel
theorem dX7_insertWeight_1 : decode cX7_insertWeight 1 = .ok (.aload_n 0, 1) := by decide +kernel
theorem dX7_insertWeight_2 : decode cX7_insertWeight 2 = .ok (.getfield 10, 3) := by decide +kernel
theorem dX7_insertWeight_5 : decode cX7_insertWeight 5 = .ok (.getfield 85, 3) := by decide +kernel
theorem dX7_insertWeight_8 : decode cX7_insertWeight 8 = .ok (.getfield 89, 3) := by decide +kernel
theorem dX7_insertWeight_11 : decode cX7_insertWeight 11 = .ok (.iconst 1, 1) := by decide +kernel
theorem dX7_insertWeight_12 : decode cX7_insertWeight 12 = .ok (.iadd, 1) := by decide +kernel
theorem dX7_insertWeight_13 : decode cX7_insertWeight 13 = .ok (.invokestatic 74, 3) := by decide +kernel
theorem dX7_insertWeight_16 : decode cX7_insertWeight 16 = .ok (.iload_n 2, 1) := by decide +kernel
theorem dX7_insertWeight_17 : decode cX7_insertWeight 17 = .ok (.iconst 1, 1) := by decide +kernel
theorem dX7_insertWeight_18 : decode cX7_insertWeight 18 = .ok (.sipush 2048, 3) := by decide +kernel
theorem dX7_insertWeight_21 : decode cX7_insertWeight 21 = .ok (.invokestatic 45, 3) := by decide +kernel
theorem dX7_insertWeight_24 : decode cX7_insertWeight 24 = .ok (.aload_n 0, 1) := by decide +kernel
theorem dX7_insertWeight_25 : decode cX7_insertWeight 25 = .ok (.getfield 10, 3) := by decide +kernel
theorem dX7_insertWeight_28 : decode cX7_insertWeight 28 = .ok (.getfield 85, 3) := by decide +kernel
theorem dX7_insertWeight_31 : decode cX7_insertWeight 31 = .ok (.getfield 89, 3) := by decide +kernel
theorem dX7_insertWeight_34 : decode cX7_insertWeight 34 = .ok (.bipush 12, 2) := by decide +kernel
theorem dX7_insertWeight_36 : decode cX7_insertWeight 36 = .ok (.if_icmp .lt 13, 3) := by decide +kernel
theorem dX7_insertWeight_39 : decode cX7_insertWeight 39 = .ok (.new 98, 3) := by decide +kernel
theorem dX7_insertWeight_42 : decode cX7_insertWeight 42 = .ok (.dup, 1) := by decide +kernel
theorem dX7_insertWeight_43 : decode cX7_insertWeight 43 = .ok (.ldc 100, 2) := by decide +kernel
theorem dX7_insertWeight_45 : decode cX7_insertWeight 45 = .ok (.invokespecial 102, 3) := by decide +kernel
theorem dX7_insertWeight_48 : decode cX7_insertWeight 48 = .ok (.athrow, 1) := by decide +kernel
theorem dX7_insertWeight_49 : decode cX7_insertWeight 49 = .ok (.aload_n 0, 1) := by decide +kernel
theorem dX7_insertWeight_50 : decode cX7_insertWeight 50 = .ok (.getfield 19, 3) := by decide +kernel
theorem dX7_insertWeight_53 : decode cX7_insertWeight 53 = .ok (.aload_n 0, 1) := by decide +kernel
theorem dX7_insertWeight_54 : decode cX7_insertWeight 54 = .ok (.getfield 10, 3) := by decide +kernel
theorem dX7_insertWeight_57 : decode cX7_insertWeight 57 = .ok (.invokevirtual 49, 3) := by decide +kernel
theorem dX7_insertWeight_60 : decode cX7_insertWeight 60 = .ok (.aload_n 0, 1) := by decide +kernel
theorem dX7_insertWeight_61 : decode cX7_insertWeight 61 = .ok (.getfield 10, 3) := by decide +kernel
theorem dX7_insertWeight_64 : decode cX7_insertWeight 64 = .ok (.getfield 85, 3) := by decide +kernel
theorem dX7_insertWeight_67 : decode cX7_insertWeight 67 = .ok (.iload_n 1, 1) := by decide +kernel
theorem dX7_insertWeight_68 : decode cX7_insertWeight 68 = .ok (.iload_n 2, 1) := by decide +kernel
theorem dX7_insertWeight_69 : decode cX7_insertWeight 69 = .ok (.invokevirtual 105, 3) := by decide +kernel
theorem dX7_insertWeight_72 : decode cX7_insertWeight 72 = .ok (.aload_n 0, 1) := by decide +kernel
theorem dX7_insertWeight_73 : decode cX7_insertWeight 73 = .ok (.getfield 10, 3) := by decide +kernel
theorem dX7_insertWeight_76 : decode cX7_insertWeight 76 = .ok (.getfield 85, 3) := by decide +kernel
theorem dX7_insertWeight_79 : decode cX7_insertWeight 79 = .ok (.getfield 89, 3) := by decide +kernel
theorem dX7_insertWeight_82 : decode cX7_insertWeight 82 = .ok (.ireturn, 1) := by decide +kernel
set_option maxRecDepth 20000 in
theorem ggX7_removeWeight_X7_requireNumber : GoodIn wsX7_removeWeight wsX7_requireNumber := goodIn_ca (goodIn_r _ [10, 11, 12] (by decide +kernel) (by decide +kernel)) (goodIn_sub (fun _ h => List.mem_cons_of_mem _ (List.mem_append_right _ h)) (by decide +kernel))
set_option maxRecDepth 20000 in
theorem gX7_removeWeight_X7_requireNumber : GoodIn wsX7_removeWeight (va_wsS RX7 74 yX7_requireNumber wsX7_requireNumber) := goodIn_app (goodIn_of _ (by decide +kernel)) ggX7_removeWeight_X7_requireNumber
set_option maxRecDepth 20000 in
theorem ggX7_removeWeight_X1_push : GoodIn wsX7_removeWeight wsX1_push := goodIn_r _ [17, 18, 19, 20, 21, 22, 23, 24, 25, 26, 27, 28, 29, 30, 31, 32, 33, 34, 35, 36, 37, 38, 39, 40, 41, 42, 43, 44, 45, 46, 47, 48, 49, 50, 51, 52, 53, 54, 55, 56, 57, 76, 77, 78, 67, 68, 69, 70, 71, 72, 73, 74, 75, 79, 80, 81, 82] (by decide +kernel) (by decide +kernel)
set_option maxRecDepth 20000 in
theorem gX7_removeWeight_X1_push : GoodIn wsX7_removeWeight (wsV RX7 49 RX1 yX1_push wsX1_push) := goodIn_app (goodIn_of _ (by decide +kernel)) ggX7_removeWeight_X1_push
set_option maxRecDepth 20000 in
theorem ggX7_removeWeight_X6_takeOut : GoodIn wsX7_removeWeight wsX6_takeOut := goodIn_r _ [61, 42, 47, 74, 75] (by decide +kernel) (by decide +kernel)
set_option maxRecDepth 20000 in
theorem gX7_removeWeight_X6_takeOut : GoodIn wsX7_removeWeight (wsV RX7 110 RX6 yX6_takeOut wsX6_takeOut) := goodIn_app (goodIn_of _ (by decide +kernel)) ggX7_removeWeight_X6_takeOut
theorem dX7_removeWeight_0 : decode cX7_removeWeight 0 = .ok (.iload_n 1, 1) := by decide +kernel
theorem dX7_removeWeight_1 : decode cX7_removeWeight 1 = .ok (.aload_n 0, 1) := by decide +kernel
theorem dX7_removeWeight_2 : decode cX7_removeWeight 2 = .ok (.getfield 10, 3) := by decide +kernel
theorem dX7_removeWeight_5 : decode cX7_removeWeight 5 = .ok (.getfield 85, 3) := by decide +kernel
theorem dX7_removeWeight_8 : decode cX7_removeWeight 8 = .ok (.getfield 89, 3) := by decide +kernel
theorem dX7_removeWeight_11 : decode cX7_removeWeight 11 = .ok (.invokestatic 74, 3) := by decide +kernel
theorem dX7_removeWeight_14 : decode cX7_removeWeight 14 = .ok (.aload_n 0, 1) := by decide +kernel
theorem dX7_removeWeight_15 : decode cX7_removeWeight 15 = .ok (.getfield 10, 3) := by decide +kernel
theorem dX7_removeWeight_18 : decode cX7_removeWeight 18 = .ok (.getfield 85, 3) := by decide +kernel
theorem dX7_removeWeight_21 : decode cX7_removeWeight 21 = .ok (.getfield 89, 3) := by decide +kernel
theorem dX7_removeWeight_24 : decode cX7_removeWeight 24 = .ok (.iconst 1, 1) := by decide +kernel
theorem dX7_removeWeight_25 : decode cX7_removeWeight 25 = .ok (.if_icmp .ne 13, 3) := by decide +kernel
theorem dX7_removeWeight_28 : decode cX7_removeWeight 28 = .ok (.new 98, 3) := by decide +kernel
theorem dX7_removeWeight_31 : decode cX7_removeWeight 31 = .ok (.dup, 1) := by decide +kernel
theorem dX7_removeWeight_32 : decode cX7_removeWeight 32 = .ok (.ldc 108, 2) := by decide +kernel
theorem dX7_removeWeight_34 : decode cX7_removeWeight 34 = .ok (.invokespecial 102, 3) := by decide +kernel
theorem dX7_removeWeight_37 : decode cX7_removeWeight 37 = .ok (.athrow, 1) := by decide +kernel
theorem dX7_removeWeight_38 : decode cX7_removeWeight 38 = .ok (.aload_n 0, 1) := by decide +kernel
theorem dX7_removeWeight_39 : decode cX7_removeWeight 39 = .ok (.getfield 19, 3) := by decide +kernel
theorem dX7_removeWeight_42 : decode cX7_removeWeight 42 = .ok (.aload_n 0, 1) := by decide +kernel
theorem dX7_removeWeight_43 : decode cX7_removeWeight 43 = .ok (.getfield 10, 3) := by decide +kernel
theorem dX7_removeWeight_46 : decode cX7_removeWeight 46 = .ok (.invokevirtual 49, 3) := by decide +kernel
theorem dX7_removeWeight_49 : decode cX7_removeWeight 49 = .ok (.aload_n 0, 1) := by decide +kernel
theorem dX7_removeWeight_50 : decode cX7_removeWeight 50 = .ok (.getfield 10, 3) := by decide +kernel
theorem dX7_removeWeight_53 : decode cX7_removeWeight 53 = .ok (.getfield 85, 3) := by decide +kernel
theorem dX7_removeWeight_56 : decode cX7_removeWeight 56 = .ok (.iload_n 1, 1) := by decide +kernel
theorem dX7_removeWeight_57 : decode cX7_removeWeight 57 = .ok (.invokevirtual 110, 3) := by decide +kernel
theorem dX7_removeWeight_60 : decode cX7_removeWeight 60 = .ok (.ireturn, 1) := by decide +kernel
set_option maxRecDepth 20000 in
theorem ggX7_sortWeights_X1_push : GoodIn wsX7_sortWeights wsX1_push := goodIn_r _ [8, 9, 10, 11, 12, 13, 14, 15, 16, 17, 18, 19, 20, 21, 22, 23, 24, 25, 26, 27, 28, 29, 30, 31, 32, 33, 34, 35, 36, 37, 38, 39, 40, 41, 42, 43, 44, 45, 46, 47, 48, 73, 74, 75, 66, 67, 68, 69, 70, 71, 72, 76, 77, 78, 79, 80, 81] (by decide +kernel) (by decide +kernel)
set_option maxRecDepth 20000 in
theorem gX7_sortWeights_X1_push : GoodIn wsX7_sortWeights (wsV RX7 49 RX1 yX1_push wsX1_push) := goodIn_app (goodIn_of _ (by decide +kernel)) ggX7_sortWeights_X1_push
set_option maxRecDepth 20000 in
theorem ggX7_sortWeights_X6_countMisplaced : GoodIn wsX7_sortWeights wsX6_countMisplaced := goodIn_r _ [52, 38, 53, 54, 55, 31, 56, 33, 76, 77] (by decide +kernel) (by decide +kernel)
set_option maxRecDepth 20000 in
theorem gX7_sortWeights_X6_countMisplaced : GoodIn wsX7_sortWeights (wsV RX7 114 RX6 yX6_countMisplaced wsX6_countMisplaced) := goodIn_app (goodIn_of _ (by decide +kernel)) ggX7_sortWeights_X6_countMisplaced
set_option maxRecDepth 20000 in
theorem ggX7_sortWeights_X6_sortDescending : GoodIn wsX7_sortWeights wsX6_sortDescending := goodIn_r _ [60, 38, 33, 76, 77] (by decide +kernel) (by decide +kernel)
set_option maxRecDepth 20000 in
theorem gX7_sortWeights_X6_sortDescending : GoodIn wsX7_sortWeights (wsV RX7 118 RX6 yX6_sortDescending wsX6_sortDescending) := goodIn_app (goodIn_of _ (by decide +kernel)) ggX7_sortWeights_X6_sortDescending
theorem dX7_sortWeights_0 : decode cX7_sortWeights 0 = .ok (.aload_n 0, 1) := by decide +kernel
theorem dX7_sortWeights_1 : decode cX7_sortWeights 1 = .ok (.getfield 19, 3) := by decide +kernel
theorem dX7_sortWeights_4 : decode cX7_sortWeights 4 = .ok (.aload_n 0, 1) := by decide +kernel
theorem dX7_sortWeights_5 : decode cX7_sortWeights 5 = .ok (.getfield 10, 3) := by decide +kernel
theorem dX7_sortWeights_8 : decode cX7_sortWeights 8 = .ok (.invokevirtual 49, 3) := by decide +kernel
theorem dX7_sortWeights_11 : decode cX7_sortWeights 11 = .ok (.aload_n 0, 1) := by decide +kernel
theorem dX7_sortWeights_12 : decode cX7_sortWeights 12 = .ok (.getfield 10, 3) := by decide +kernel
theorem dX7_sortWeights_15 : decode cX7_sortWeights 15 = .ok (.getfield 85, 3) := by decide +kernel
theorem dX7_sortWeights_18 : decode cX7_sortWeights 18 = .ok (.invokevirtual 114, 3) := by decide +kernel
theorem dX7_sortWeights_21 : decode cX7_sortWeights 21 = .ok (.istore_n 1, 1) := by decide +kernel
