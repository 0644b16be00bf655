theorem dX7_digest_86 : decode cX7_digest 86 = .ok (.getfield 89, 3) := by decide +kernel
theorem dX7_digest_89 : decode cX7_digest 89 = .ok (.if_icmp .ge 29, 3) := by decide +kernel
theorem dX7_digest_92 : decode cX7_digest 92 = .ok (.lload_n 1, 1) := by decide +kernel
theorem dX7_digest_93 : decode cX7_digest 93 = .ok (.aload_n 0, 1) := by decide +kernel
theorem dX7_digest_94 : decode cX7_digest 94 = .ok (.iload_n 3, 1) := by decide +kernel
theorem dX7_digest_95 : decode cX7_digest 95 = .ok (.invokevirtual 231, 3) := by decide +kernel
theorem dX7_digest_98 : decode cX7_digest 98 = .ok (.invokestatic 207, 3) := by decide +kernel
theorem dX7_digest_101 : decode cX7_digest 101 = .ok (.lstore_n 1, 1) := by decide +kernel
theorem dX7_digest_102 : decode cX7_digest 102 = .ok (.lload_n 1, 1) := by decide +kernel
theorem dX7_digest_103 : decode cX7_digest 103 = .ok (.aload_n 0, 1) := by decide +kernel
theorem dX7_digest_104 : decode cX7_digest 104 = .ok (.iload_n 3, 1) := by decide +kernel
theorem dX7_digest_105 : decode cX7_digest 105 = .ok (.invokevirtual 234, 3) := by decide +kernel
theorem dX7_digest_108 : decode cX7_digest 108 = .ok (.invokestatic 207, 3) := by decide +kernel
theorem dX7_digest_111 : decode cX7_digest 111 = .ok (.lstore_n 1, 1) := by decide +kernel
theorem dX7_digest_112 : decode cX7_digest 112 = .ok (.iinc 3 1, 3) := by decide +kernel
theorem dX7_digest_115 : decode cX7_digest 115 = .ok (.goto (-37), 3) := by decide +kernel
theorem dX7_digest_118 : decode cX7_digest 118 = .ok (.iconst 0, 1) := by decide +kernel
theorem dX7_digest_119 : decode cX7_digest 119 = .ok (.istore_n 3, 1) := by decide +kernel
theorem dX7_digest_120 : decode cX7_digest 120 = .ok (.iload_n 3, 1) := by decide +kernel
theorem dX7_digest_121 : decode cX7_digest 121 = .ok (.aload_n 0, 1) := by decide +kernel
theorem dX7_digest_122 : decode cX7_digest 122 = .ok (.getfield 10, 3) := by decide +kernel
theorem dX7_digest_125 : decode cX7_digest 125 = .ok (.getfield 128, 3) := by decide +kernel
theorem dX7_digest_128 : decode cX7_digest 128 = .ok (.getfield 143, 3) := by decide +kernel
theorem dX7_digest_131 : decode cX7_digest 131 = .ok (.if_icmp .ge 39, 3) := by decide +kernel
theorem dX7_digest_134 : decode cX7_digest 134 = .ok (.lload_n 1, 1) := by decide +kernel
theorem dX7_digest_135 : decode cX7_digest 135 = .ok (.aload_n 0, 1) := by decide +kernel
theorem dX7_digest_136 : decode cX7_digest 136 = .ok (.iload_n 3, 1) := by decide +kernel
theorem dX7_digest_137 : decode cX7_digest 137 = .ok (.invokevirtual 237, 3) := by decide +kernel
theorem dX7_digest_140 : decode cX7_digest 140 = .ok (.invokestatic 207, 3) := by decide +kernel
theorem dX7_digest_143 : decode cX7_digest 143 = .ok (.lstore_n 1, 1) := by decide +kernel
theorem dX7_digest_144 : decode cX7_digest 144 = .ok (.lload_n 1, 1) := by decide +kernel
theorem dX7_digest_145 : decode cX7_digest 145 = .ok (.aload_n 0, 1) := by decide +kernel
theorem dX7_digest_146 : decode cX7_digest 146 = .ok (.iload_n 3, 1) := by decide +kernel
theorem dX7_digest_147 : decode cX7_digest 147 = .ok (.invokevirtual 239, 3) := by decide +kernel
theorem dX7_digest_150 : decode cX7_digest 150 = .ok (.invokestatic 207, 3) := by decide +kernel
theorem dX7_digest_153 : decode cX7_digest 153 = .ok (.lstore_n 1, 1) := by decide +kernel
theorem dX7_digest_154 : decode cX7_digest 154 = .ok (.lload_n 1, 1) := by decide +kernel
theorem dX7_digest_155 : decode cX7_digest 155 = .ok (.aload_n 0, 1) := by decide +kernel
theorem dX7_digest_156 : decode cX7_digest 156 = .ok (.iload_n 3, 1) := by decide +kernel
theorem dX7_digest_157 : decode cX7_digest 157 = .ok (.invokevirtual 241, 3) := by decide +kernel
theorem dX7_digest_160 : decode cX7_digest 160 = .ok (.invokestatic 207, 3) := by decide +kernel
theorem dX7_digest_163 : decode cX7_digest 163 = .ok (.lstore_n 1, 1) := by decide +kernel
theorem dX7_digest_164 : decode cX7_digest 164 = .ok (.iinc 3 1, 3) := by decide +kernel
theorem dX7_digest_167 : decode cX7_digest 167 = .ok (.goto (-47), 3) := by decide +kernel
theorem dX7_digest_170 : decode cX7_digest 170 = .ok (.lload_n 1, 1) := by decide +kernel
theorem dX7_digest_171 : decode cX7_digest 171 = .ok (.lreturn, 1) := by decide +kernel
theorem dX7_requireArgument_0 : decode cX7_requireArgument 0 = .ok (.iload_n 0, 1) := by decide +kernel
theorem dX7_requireArgument_1 : decode cX7_requireArgument 1 = .ok (.iload_n 1, 1) := by decide +kernel
theorem dX7_requireArgument_2 : decode cX7_requireArgument 2 = .ok (.if_icmp .lt 8, 3) := by decide +kernel
theorem dX7_requireArgument_5 : decode cX7_requireArgument 5 = .ok (.iload_n 0, 1) := by decide +kernel
theorem dX7_requireArgument_6 : decode cX7_requireArgument 6 = .ok (.iload_n 2, 1) := by decide +kernel
theorem dX7_requireArgument_7 : decode cX7_requireArgument 7 = .ok (.if_icmp .le 13, 3) := by decide +kernel
theorem dX7_requireArgument_10 : decode cX7_requireArgument 10 = .ok (.new 189, 3) := by decide +kernel
theorem dX7_requireArgument_13 : decode cX7_requireArgument 13 = .ok (.dup, 1) := by decide +kernel
theorem dX7_requireArgument_14 : decode cX7_requireArgument 14 = .ok (.ldc 244, 2) := by decide +kernel
theorem dX7_requireArgument_16 : decode cX7_requireArgument 16 = .ok (.invokespecial 193, 3) := by decide +kernel
theorem dX7_requireArgument_19 : decode cX7_requireArgument 19 = .ok (.athrow, 1) := by decide +kernel
theorem dX7_requireArgument_20 : decode cX7_requireArgument 20 = .ok (.return_, 1) := by decide +kernel
theorem dX7_requireNumber_0 : decode cX7_requireNumber 0 = .ok (.iload_n 0, 1) := by decide +kernel
theorem dX7_requireNumber_1 : decode cX7_requireNumber 1 = .ok (.ifCond .lt 8, 3) := by decide +kernel
theorem dX7_requireNumber_4 : decode cX7_requireNumber 4 = .ok (.iload_n 0, 1) := by decide +kernel
theorem dX7_requireNumber_5 : decode cX7_requireNumber 5 = .ok (.iload_n 1, 1) := by decide +kernel
theorem dX7_requireNumber_6 : decode cX7_requireNumber 6 = .ok (.if_icmp .lt 13, 3) := by decide +kernel
theorem dX7_requireNumber_9 : decode cX7_requireNumber 9 = .ok (.new 246, 3) := by decide +kernel
theorem dX7_requireNumber_12 : decode cX7_requireNumber 12 = .ok (.dup, 1) := by decide +kernel
theorem dX7_requireNumber_13 : decode cX7_requireNumber 13 = .ok (.ldc 248, 2) := by decide +kernel
theorem dX7_requireNumber_15 : decode cX7_requireNumber 15 = .ok (.invokespecial 250, 3) := by decide +kernel
theorem dX7_requireNumber_18 : decode cX7_requireNumber 18 = .ok (.athrow, 1) := by decide +kernel
theorem dX7_requireNumber_19 : decode cX7_requireNumber 19 = .ok (.return_, 1) := by decide +kernel
theorem dX7_hasBit_0 : decode cX7_hasBit 0 = .ok (.iload_n 0, 1) := by decide +kernel
theorem dX7_hasBit_1 : decode cX7_hasBit 1 = .ok (.iload_n 1, 1) := by decide +kernel
theorem dX7_hasBit_2 : decode cX7_hasBit 2 = .ok (.ishr, 1) := by decide +kernel
theorem dX7_hasBit_3 : decode cX7_hasBit 3 = .ok (.iconst 1, 1) := by decide +kernel
theorem dX7_hasBit_4 : decode cX7_hasBit 4 = .ok (.iand, 1) := by decide +kernel
theorem dX7_hasBit_5 : decode cX7_hasBit 5 = .ok (.ifCond .eq 7, 3) := by decide +kernel
theorem dX7_hasBit_8 : decode cX7_hasBit 8 = .ok (.iconst 1, 1) := by decide +kernel
theorem dX7_hasBit_9 : decode cX7_hasBit 9 = .ok (.goto 4, 3) := by decide +kernel
theorem dX7_hasBit_12 : decode cX7_hasBit 12 = .ok (.iconst 0, 1) := by decide +kernel
theorem dX7_hasBit_13 : decode cX7_hasBit 13 = .ok (.ireturn, 1) := by decide +kernel
theorem dX7_mixed_0 : decode cX7_mixed 0 = .ok (.ldc2_w 251, 3) := by decide +kernel
theorem dX7_mixed_3 : decode cX7_mixed 3 = .ok (.lload_n 0, 1) := by decide +kernel
theorem dX7_mixed_4 : decode cX7_mixed 4 = .ok (.lmul, 1) := by decide +kernel
theorem dX7_mixed_5 : decode cX7_mixed 5 = .ok (.iload_n 2, 1) := by decide +kernel
theorem dX7_mixed_6 : decode cX7_mixed 6 = .ok (.i2l, 1) := by decide +kernel
theorem dX7_mixed_7 : decode cX7_mixed 7 = .ok (.ladd, 1) := by decide +kernel
theorem dX7_mixed_8 : decode cX7_mixed 8 = .ok (.lreturn, 1) := by decide +kernel
theorem dX7_afterSampleTick_0 : decode cX7_afterSampleTick 0 = .ok (.iload_n 1, 1) := by decide +kernel
theorem dX7_afterSampleTick_1 : decode cX7_afterSampleTick 1 = .ok (.iload_n 0, 1) := by decide +kernel
theorem dX7_afterSampleTick_2 : decode cX7_afterSampleTick 2 = .ok (.isub, 1) := by decide +kernel
theorem dX7_afterSampleTick_3 : decode cX7_afterSampleTick 3 = .ok (.iload_n 2, 1) := by decide +kernel
theorem dX7_afterSampleTick_4 : decode cX7_afterSampleTick 4 = .ok (.imul, 1) := by decide +kernel
theorem dX7_afterSampleTick_5 : decode cX7_afterSampleTick 5 = .ok (.bipush 16, 2) := by decide +kernel
theorem dX7_afterSampleTick_7 : decode cX7_afterSampleTick 7 = .ok (.idiv, 1) := by decide +kernel
theorem dX7_afterSampleTick_8 : decode cX7_afterSampleTick 8 = .ok (.istore_n 3, 1) := by decide +kernel
theorem dX7_afterSampleTick_9 : decode cX7_afterSampleTick 9 = .ok (.iload_n 3, 1) := by decide +kernel
theorem dX7_afterSampleTick_10 : decode cX7_afterSampleTick 10 = .ok (.ifCond .ne 19, 3) := by decide +kernel
theorem dX7_afterSampleTick_13 : decode cX7_afterSampleTick 13 = .ok (.iload_n 1, 1) := by decide +kernel
theorem dX7_afterSampleTick_14 : decode cX7_afterSampleTick 14 = .ok (.iload_n 0, 1) := by decide +kernel
theorem dX7_afterSampleTick_15 : decode cX7_afterSampleTick 15 = .ok (.if_icmp .eq 14, 3) := by decide +kernel
theorem dX7_afterSampleTick_18 : decode cX7_afterSampleTick 18 = .ok (.iload_n 1, 1) := by decide +kernel
theorem dX7_afterSampleTick_19 : decode cX7_afterSampleTick 19 = .ok (.iload_n 0, 1) := by decide +kernel
theorem dX7_afterSampleTick_20 : decode cX7_afterSampleTick 20 = .ok (.if_icmp .le 7, 3) := by decide +kernel
theorem dX7_afterSampleTick_23 : decode cX7_afterSampleTick 23 = .ok (.iconst 1, 1) := by decide +kernel
theorem dX7_afterSampleTick_24 : decode cX7_afterSampleTick 24 = .ok (.goto 4, 3) := by decide +kernel
theorem dX7_afterSampleTick_27 : decode cX7_afterSampleTick 27 = .ok (.iconst (-1), 1) := by decide +kernel
theorem dX7_afterSampleTick_28 : decode cX7_afterSampleTick 28 = .ok (.istore_n 3, 1) := by decide +kernel
theorem dX7_afterSampleTick_29 : decode cX7_afterSampleTick 29 = .ok (.iload_n 0, 1) := by decide +kernel
theorem dX7_afterSampleTick_30 : decode cX7_afterSampleTick 30 = .ok (.iload_n 3, 1) := by decide +kernel
theorem dX7_afterSampleTick_31 : decode cX7_afterSampleTick 31 = .ok (.iadd, 1) := by decide +kernel
theorem dX7_afterSampleTick_32 : decode cX7_afterSampleTick 32 = .ok (.ireturn, 1) := by decide +kernel
theorem dX7_afterHoldTick_0 : decode cX7_afterHoldTick 0 = .ok (.iload_n 0, 1) := by decide +kernel
theorem dX7_afterHoldTick_1 : decode cX7_afterHoldTick 1 = .ok (.iload_n 0, 1) := by decide +kernel
theorem dX7_afterHoldTick_2 : decode cX7_afterHoldTick 2 = .ok (.iload_n 1, 1) := by decide +kernel
theorem dX7_afterHoldTick_3 : decode cX7_afterHoldTick 3 = .ok (.imul, 1) := by decide +kernel
theorem dX7_afterHoldTick_4 : decode cX7_afterHoldTick 4 = .ok (.sipush 4096, 3) := by decide +kernel
theorem dX7_afterHoldTick_7 : decode cX7_afterHoldTick 7 = .ok (.idiv, 1) := by decide +kernel
theorem dX7_afterHoldTick_8 : decode cX7_afterHoldTick 8 = .ok (.isub, 1) := by decide +kernel
theorem dX7_afterHoldTick_9 : decode cX7_afterHoldTick 9 = .ok (.ireturn, 1) := by decide +kernel
set_option maxRecDepth 20000 in
theorem ggX7_weighNow_X4_run : GoodIn wsX7_weighNow wsX4_run := goodIn_r _ [12, 13, 14, 15, 16, 17, 18, 19, 20, 21, 22, 35, 36, 37, 38, 39] (by decide +kernel) (by decide +kernel)
set_option maxRecDepth 20000 in
theorem gX7_weighNow_X4_run : GoodIn wsX7_weighNow (wsV RX7 253 RX4 yX4_run wsX4_run) := goodIn_app (goodIn_of _ (by decide +kernel)) ggX7_weighNow_X4_run
theorem dX7_weighNow_0 : decode cX7_weighNow 0 = .ok (.aload_n 0, 1) := by decide +kernel
theorem dX7_weighNow_1 : decode cX7_weighNow 1 = .ok (.getfield 33, 3) := by decide +kernel
theorem dX7_weighNow_4 : decode cX7_weighNow 4 = .ok (.aload_n 0, 1) := by decide +kernel
theorem dX7_weighNow_5 : decode cX7_weighNow 5 = .ok (.getfield 10, 3) := by decide +kernel
theorem dX7_weighNow_8 : decode cX7_weighNow 8 = .ok (.getfield 85, 3) := by decide +kernel
theorem dX7_weighNow_11 : decode cX7_weighNow 11 = .ok (.aload_n 0, 1) := by decide +kernel
theorem dX7_weighNow_12 : decode cX7_weighNow 12 = .ok (.getfield 10, 3) := by decide +kernel
theorem dX7_weighNow_15 : decode cX7_weighNow 15 = .ok (.getfield 53, 3) := by decide +kernel
theorem dX7_weighNow_18 : decode cX7_weighNow 18 = .ok (.aload_n 0, 1) := by decide +kernel
theorem dX7_weighNow_19 : decode cX7_weighNow 19 = .ok (.getfield 10, 3) := by decide +kernel
theorem dX7_weighNow_22 : decode cX7_weighNow 22 = .ok (.getfield 64, 3) := by decide +kernel
theorem dX7_weighNow_25 : decode cX7_weighNow 25 = .ok (.aload_n 0, 1) := by decide +kernel
theorem dX7_weighNow_26 : decode cX7_weighNow 26 = .ok (.getfield 10, 3) := by decide +kernel
theorem dX7_weighNow_29 : decode cX7_weighNow 29 = .ok (.getfield 71, 3) := by decide +kernel
theorem dX7_weighNow_32 : decode cX7_weighNow 32 = .ok (.aload_n 0, 1) := by decide +kernel
theorem dX7_weighNow_33 : decode cX7_weighNow 33 = .ok (.getfield 10, 3) := by decide +kernel
theorem dX7_weighNow_36 : decode cX7_weighNow 36 = .ok (.getfield 78, 3) := by decide +kernel
theorem dX7_weighNow_39 : decode cX7_weighNow 39 = .ok (.invokevirtual 253, 3) := by decide +kernel
theorem dX7_weighNow_42 : decode cX7_weighNow 42 = .ok (.return_, 1) := by decide +kernel
set_option maxRecDepth 20000 in
theorem ggX7_steadyCode_X4_run : GoodIn wsX7_steadyCode wsX4_run := goodIn_r _ [9, 10, 11, 12, 13, 14, 15, 16, 17, 18, 19, 32, 33, 34, 35, 36] (by decide +kernel) (by decide +kernel)
set_option maxRecDepth 20000 in
theorem gX7_steadyCode_X4_run : GoodIn wsX7_steadyCode (wsV RX7 253 RX4 yX4_run wsX4_run) := goodIn_app (goodIn_of _ (by decide +kernel)) ggX7_steadyCode_X4_run
theorem dX7_steadyCode_0 : decode cX7_steadyCode 0 = .ok (.aload_n 0, 1) := by decide +kernel
theorem dX7_steadyCode_1 : decode cX7_steadyCode 1 = .ok (.getfield 33, 3) := by decide +kernel
theorem dX7_steadyCode_4 : decode cX7_steadyCode 4 = .ok (.aload_n 0, 1) := by decide +kernel
theorem dX7_steadyCode_5 : decode cX7_steadyCode 5 = .ok (.getfield 10, 3) := by decide +kernel
theorem dX7_steadyCode_8 : decode cX7_steadyCode 8 = .ok (.getfield 85, 3) := by decide +kernel
theorem dX7_steadyCode_11 : decode cX7_steadyCode 11 = .ok (.iload_n 1, 1) := by decide +kernel
theorem dX7_steadyCode_12 : decode cX7_steadyCode 12 = .ok (.iconst 0, 1) := by decide +kernel
theorem dX7_steadyCode_13 : decode cX7_steadyCode 13 = .ok (.iconst 0, 1) := by decide +kernel
theorem dX7_steadyCode_14 : decode cX7_steadyCode 14 = .ok (.iload_n 2, 1) := by decide +kernel
theorem dX7_steadyCode_15 : decode cX7_steadyCode 15 = .ok (.invokevirtual 253, 3) := by decide +kernel
theorem dX7_steadyCode_18 : decode cX7_steadyCode 18 = .ok (.aload_n 0, 1) := by decide +kernel
theorem dX7_steadyCode_19 : decode cX7_steadyCode 19 = .ok (.getfield 33, 3) := by decide +kernel
theorem dX7_steadyCode_22 : decode cX7_steadyCode 22 = .ok (.getfield 135, 3) := by decide +kernel
theorem dX7_steadyCode_25 : decode cX7_steadyCode 25 = .ok (.ireturn, 1) := by decide +kernel
theorem dX8_init_0 : decode cX8_init 0 = .ok (.aload_n 0, 1) := by decide +kernel
theorem dX8_init_1 : decode cX8_init 1 = .ok (.invokespecial 1, 3) := by decide +kernel
theorem dX8_init_4 : decode cX8_init 4 = .ok (.aload_n 0, 1) := by decide +kernel
theorem dX8_init_5 : decode cX8_init 5 = .ok (.bipush 43, 2) := by decide +kernel
theorem dX8_init_7 : decode cX8_init 7 = .ok (.newarray .int, 2) := by decide +kernel
theorem dX8_init_9 : decode cX8_init 9 = .ok (.putfield 7, 3) := by decide +kernel
theorem dX8_init_12 : decode cX8_init 12 = .ok (.aload_n 0, 1) := by decide +kernel
theorem dX8_init_13 : decode cX8_init 13 = .ok (.sipush 258, 3) := by decide +kernel
theorem dX8_init_16 : decode cX8_init 16 = .ok (.newarray .int, 2) := by decide +kernel
theorem dX8_init_18 : decode cX8_init 18 = .ok (.putfield 13, 3) := by decide +kernel
theorem dX8_init_21 : decode cX8_init 21 = .ok (.aload_n 0, 1) := by decide +kernel
theorem dX8_init_22 : decode cX8_init 22 = .ok (.bipush 60, 2) := by decide +kernel
theorem dX8_init_24 : decode cX8_init 24 = .ok (.newarray .int, 2) := by decide +kernel
theorem dX8_init_26 : decode cX8_init 26 = .ok (.putfield 16, 3) := by decide +kernel
theorem dX8_init_29 : decode cX8_init 29 = .ok (.aload_n 0, 1) := by decide +kernel
theorem dX8_init_30 : decode cX8_init 30 = .ok (.bipush 12, 2) := by decide +kernel
theorem dX8_init_32 : decode cX8_init 32 = .ok (.newarray .int, 2) := by decide +kernel
theorem dX8_init_34 : decode cX8_init 34 = .ok (.putfield 19, 3) := by decide +kernel
theorem dX8_init_37 : decode cX8_init 37 = .ok (.aload_n 0, 1) := by decide +kernel
theorem dX8_init_38 : decode cX8_init 38 = .ok (.sipush 4096, 3) := by decide +kernel
theorem dX8_init_41 : decode cX8_init 41 = .ok (.newarray .boolean, 2) := by decide +kernel
theorem dX8_init_43 : decode cX8_init 43 = .ok (.putfield 22, 3) := by decide +kernel
theorem dX8_init_46 : decode cX8_init 46 = .ok (.aload_n 0, 1) := by decide +kernel
theorem dX8_init_47 : decode cX8_init 47 = .ok (.bipush 12, 2) := by decide +kernel
theorem dX8_init_49 : decode cX8_init 49 = .ok (.newarray .int, 2) := by decide +kernel
theorem dX8_init_51 : decode cX8_init 51 = .ok (.putfield 26, 3) := by decide +kernel
theorem dX8_init_54 : decode cX8_init 54 = .ok (.aload_n 0, 1) := by decide +kernel
theorem dX8_init_55 : decode cX8_init 55 = .ok (.getfield 7, 3) := by decide +kernel
theorem dX8_init_58 : decode cX8_init 58 = .ok (.iconst 1, 1) := by decide +kernel
theorem dX8_init_59 : decode cX8_init 59 = .ok (.bipush 8, 2) := by decide +kernel
theorem dX8_init_61 : decode cX8_init 61 = .ok (.iastore, 1) := by decide +kernel
theorem dX8_init_62 : decode cX8_init 62 = .ok (.aload_n 0, 1) := by decide +kernel
theorem dX8_init_63 : decode cX8_init 63 = .ok (.getfield 7, 3) := by decide +kernel
theorem dX8_init_66 : decode cX8_init 66 = .ok (.iconst 5, 1) := by decide +kernel
theorem dX8_init_67 : decode cX8_init 67 = .ok (.bipush 8, 2) := by decide +kernel
theorem dX8_init_69 : decode cX8_init 69 = .ok (.iastore, 1) := by decide +kernel
theorem dX8_init_70 : decode cX8_init 70 = .ok (.iconst 0, 1) := by decide +kernel
theorem dX8_init_71 : decode cX8_init 71 = .ok (.istore_n 1, 1) := by decide +kernel
theorem dX8_init_72 : decode cX8_init 72 = .ok (.iload_n 1, 1) := by decide +kernel
theorem dX8_init_73 : decode cX8_init 73 = .ok (.bipush 8, 2) := by decide +kernel
theorem dX8_init_75 : decode cX8_init 75 = .ok (.if_icmp .ge 23, 3) := by decide +kernel
theorem dX8_init_78 : decode cX8_init 78 = .ok (.aload_n 0, 1) := by decide +kernel
theorem dX8_init_79 : decode cX8_init 79 = .ok (.getfield 7, 3) := by decide +kernel
theorem dX8_init_82 : decode cX8_init 82 = .ok (.bipush 7, 2) := by decide +kernel
theorem dX8_init_84 : decode cX8_init 84 = .ok (.iload_n 1, 1) := by decide +kernel
theorem dX8_init_85 : decode cX8_init 85 = .ok (.iadd, 1) := by decide +kernel
theorem dX8_init_86 : decode cX8_init 86 = .ok (.sipush 128, 3) := by decide +kernel
theorem dX8_init_89 : decode cX8_init 89 = .ok (.iload_n 1, 1) := by decide +kernel
theorem dX8_init_90 : decode cX8_init 90 = .ok (.ishr, 1) := by decide +kernel
theorem dX8_init_91 : decode cX8_init 91 = .ok (.iastore, 1) := by decide +kernel
theorem dX8_init_92 : decode cX8_init 92 = .ok (.iinc 1 1, 3) := by decide +kernel
theorem dX8_init_95 : decode cX8_init 95 = .ok (.goto (-23), 3) := by decide +kernel
theorem dX8_init_98 : decode cX8_init 98 = .ok (.return_, 1) := by decide +kernel
theorem dX8_thrown_0 : decode cX8_thrown 0 = .ok (.aload_n 0, 1) := by decide +kernel
theorem dX8_thrown_1 : decode cX8_thrown 1 = .ok (.getfield 29, 3) := by decide +kernel
theorem dX8_thrown_4 : decode cX8_thrown 4 = .ok (.ireturn, 1) := by decide +kernel
theorem dX8_refused_0 : decode cX8_refused 0 = .ok (.aload_n 0, 1) := by decide +kernel
theorem dX8_refused_1 : decode cX8_refused 1 = .ok (.iload_n 1, 1) := by decide +kernel
theorem dX8_refused_2 : decode cX8_refused 2 = .ok (.putfield 29, 3) := by decide +kernel
theorem dX8_refused_5 : decode cX8_refused 5 = .ok (.iload_n 1, 1) := by decide +kernel
theorem dX8_refused_6 : decode cX8_refused 6 = .ok (.ifCond .le 7, 3) := by decide +kernel
theorem dX8_refused_9 : decode cX8_refused 9 = .ok (.iconst 1, 1) := by decide +kernel
theorem dX8_refused_10 : decode cX8_refused 10 = .ok (.goto 4, 3) := by decide +kernel
theorem dX8_refused_13 : decode cX8_refused 13 = .ok (.iconst 0, 1) := by decide +kernel
theorem dX8_refused_14 : decode cX8_refused 14 = .ok (.ireturn, 1) := by decide +kernel
theorem dX8_in_0 : decode cX8_in 0 = .ok (.iload_n 0, 1) := by decide +kernel
theorem dX8_in_1 : decode cX8_in 1 = .ok (.iload_n 1, 1) := by decide +kernel
theorem dX8_in_2 : decode cX8_in 2 = .ok (.if_icmp .lt 12, 3) := by decide +kernel
theorem dX8_in_5 : decode cX8_in 5 = .ok (.iload_n 0, 1) := by decide +kernel
theorem dX8_in_6 : decode cX8_in 6 = .ok (.iload_n 2, 1) := by decide +kernel
theorem dX8_in_7 : decode cX8_in 7 = .ok (.if_icmp .gt 7, 3) := by decide +kernel
theorem dX8_in_10 : decode cX8_in 10 = .ok (.iconst 1, 1) := by decide +kernel
theorem dX8_in_11 : decode cX8_in 11 = .ok (.goto 4, 3) := by decide +kernel
theorem dX8_in_14 : decode cX8_in 14 = .ok (.iconst 0, 1) := by decide +kernel
theorem dX8_in_15 : decode cX8_in 15 = .ok (.ireturn, 1) := by decide +kernel
set_option maxRecDepth 20000 in
theorem ggX8_isWeight_X8_in : GoodIn wsX8_isWeight wsX8_in := goodIn_r _ [5] (by decide +kernel) (by decide +kernel)
set_option maxRecDepth 20000 in
theorem gX8_isWeight_X8_in : GoodIn wsX8_isWeight (va_wsS RX8 33 yX8_in wsX8_in) := goodIn_app (goodIn_of _ (by decide +kernel)) ggX8_isWeight_X8_in
theorem dX8_isWeight_0 : decode cX8_isWeight 0 = .ok (.iload_n 1, 1) := by decide +kernel
theorem dX8_isWeight_1 : decode cX8_isWeight 1 = .ok (.iconst 0, 1) := by decide +kernel
theorem dX8_isWeight_2 : decode cX8_isWeight 2 = .ok (.aload_n 0, 1) := by decide +kernel
theorem dX8_isWeight_3 : decode cX8_isWeight 3 = .ok (.getfield 7, 3) := by decide +kernel
theorem dX8_isWeight_6 : decode cX8_isWeight 6 = .ok (.iconst 5, 1) := by decide +kernel
theorem dX8_isWeight_7 : decode cX8_isWeight 7 = .ok (.iaload, 1) := by decide +kernel
theorem dX8_isWeight_8 : decode cX8_isWeight 8 = .ok (.iconst 1, 1) := by decide +kernel
theorem dX8_isWeight_9 : decode cX8_isWeight 9 = .ok (.isub, 1) := by decide +kernel
theorem dX8_isWeight_10 : decode cX8_isWeight 10 = .ok (.invokestatic 33, 3) := by decide +kernel
theorem dX8_isWeight_13 : decode cX8_isWeight 13 = .ok (.ireturn, 1) := by decide +kernel
set_option maxRecDepth 20000 in
theorem ggX8_isLogged_X8_in : GoodIn wsX8_isLogged wsX8_in := goodIn_r _ [5] (by decide +kernel) (by decide +kernel)
set_option maxRecDepth 20000 in
theorem gX8_isLogged_X8_in : GoodIn wsX8_isLogged (va_wsS RX8 33 yX8_in wsX8_in) := goodIn_app (goodIn_of _ (by decide +kernel)) ggX8_isLogged_X8_in
theorem dX8_isLogged_0 : decode cX8_isLogged 0 = .ok (.iload_n 1, 1) := by decide +kernel
theorem dX8_isLogged_1 : decode cX8_isLogged 1 = .ok (.iconst 0, 1) := by decide +kernel
theorem dX8_isLogged_2 : decode cX8_isLogged 2 = .ok (.aload_n 0, 1) := by decide +kernel
theorem dX8_isLogged_3 : decode cX8_isLogged 3 = .ok (.getfield 7, 3) := by decide +kernel
theorem dX8_isLogged_6 : decode cX8_isLogged 6 = .ok (.bipush 6, 2) := by decide +kernel
theorem dX8_isLogged_8 : decode cX8_isLogged 8 = .ok (.iaload, 1) := by decide +kernel
theorem dX8_isLogged_9 : decode cX8_isLogged 9 = .ok (.iconst 1, 1) := by decide +kernel
theorem dX8_isLogged_10 : decode cX8_isLogged 10 = .ok (.isub, 1) := by decide +kernel
theorem dX8_isLogged_11 : decode cX8_isLogged 11 = .ok (.invokestatic 33, 3) := by decide +kernel
theorem dX8_isLogged_14 : decode cX8_isLogged 14 = .ok (.ireturn, 1) := by decide +kernel
theorem dX8_copyState_0 : decode cX8_copyState 0 = .ok (.iconst 0, 1) := by decide +kernel
theorem dX8_copyState_1 : decode cX8_copyState 1 = .ok (.istore 4, 2) := by decide +kernel
theorem dX8_copyState_3 : decode cX8_copyState 3 = .ok (.iload 4, 2) := by decide +kernel
theorem dX8_copyState_5 : decode cX8_copyState 5 = .ok (.bipush 43, 2) := by decide +kernel
theorem dX8_copyState_7 : decode cX8_copyState 7 = .ok (.if_icmp .ge 21, 3) := by decide +kernel
theorem dX8_copyState_10 : decode cX8_copyState 10 = .ok (.aload_n 2, 1) := by decide +kernel
theorem dX8_copyState_11 : decode cX8_copyState 11 = .ok (.iload_n 3, 1) := by decide +kernel
theorem dX8_copyState_12 : decode cX8_copyState 12 = .ok (.iload 4, 2) := by decide +kernel
theorem dX8_copyState_14 : decode cX8_copyState 14 = .ok (.iadd, 1) := by decide +kernel
theorem dX8_copyState_15 : decode cX8_copyState 15 = .ok (.aload_n 0, 1) := by decide +kernel
theorem dX8_copyState_16 : decode cX8_copyState 16 = .ok (.iload_n 1, 1) := by decide +kernel
theorem dX8_copyState_17 : decode cX8_copyState 17 = .ok (.iload 4, 2) := by decide +kernel
theorem dX8_copyState_19 : decode cX8_copyState 19 = .ok (.iadd, 1) := by decide +kernel
theorem dX8_copyState_20 : decode cX8_copyState 20 = .ok (.iaload, 1) := by decide +kernel
theorem dX8_copyState_21 : decode cX8_copyState 21 = .ok (.iastore, 1) := by decide +kernel
theorem dX8_copyState_22 : decode cX8_copyState 22 = .ok (.iinc 4 1, 3) := by decide +kernel
theorem dX8_copyState_25 : decode cX8_copyState 25 = .ok (.goto (-22), 3) := by decide +kernel
theorem dX8_copyState_28 : decode cX8_copyState 28 = .ok (.return_, 1) := by decide +kernel
set_option maxRecDepth 20000 in
theorem ggX8_saveState_X8_copyState : GoodIn wsX8_saveState wsX8_copyState := goodIn_r _ [7] (by decide +kernel) (by decide +kernel)
set_option maxRecDepth 20000 in
theorem gX8_saveState_X8_copyState : GoodIn wsX8_saveState (va_wsS RX8 40 yX8_copyState wsX8_copyState) := goodIn_app (goodIn_of _ (by decide +kernel)) ggX8_saveState_X8_copyState
theorem dX8_saveState_0 : decode cX8_saveState 0 = .ok (.aload_n 0, 1) := by decide +kernel
theorem dX8_saveState_1 : decode cX8_saveState 1 = .ok (.getfield 37, 3) := by decide +kernel
theorem dX8_saveState_4 : decode cX8_saveState 4 = .ok (.bipush 6, 2) := by decide +kernel
theorem dX8_saveState_6 : decode cX8_saveState 6 = .ok (.if_icmp .ne 43, 3) := by decide +kernel
theorem dX8_saveState_9 : decode cX8_saveState 9 = .ok (.iconst 0, 1) := by decide +kernel
theorem dX8_saveState_10 : decode cX8_saveState 10 = .ok (.istore_n 1, 1) := by decide +kernel
theorem dX8_saveState_11 : decode cX8_saveState 11 = .ok (.iload_n 1, 1) := by decide +kernel
theorem dX8_saveState_12 : decode cX8_saveState 12 = .ok (.sipush 215, 3) := by decide +kernel
theorem dX8_saveState_15 : decode cX8_saveState 15 = .ok (.if_icmp .ge 24, 3) := by decide +kernel
theorem dX8_saveState_18 : decode cX8_saveState 18 = .ok (.aload_n 0, 1) := by decide +kernel
theorem dX8_saveState_19 : decode cX8_saveState 19 = .ok (.getfield 13, 3) := by decide +kernel
theorem dX8_saveState_22 : decode cX8_saveState 22 = .ok (.iload_n 1, 1) := by decide +kernel
theorem dX8_saveState_23 : decode cX8_saveState 23 = .ok (.aload_n 0, 1) := by decide +kernel
theorem dX8_saveState_24 : decode cX8_saveState 24 = .ok (.getfield 13, 3) := by decide +kernel
theorem dX8_saveState_27 : decode cX8_saveState 27 = .ok (.iload_n 1, 1) := by decide +kernel
theorem dX8_saveState_28 : decode cX8_saveState 28 = .ok (.bipush 43, 2) := by decide +kernel
theorem dX8_saveState_30 : decode cX8_saveState 30 = .ok (.iadd, 1) := by decide +kernel
theorem dX8_saveState_31 : decode cX8_saveState 31 = .ok (.iaload, 1) := by decide +kernel
theorem dX8_saveState_32 : decode cX8_saveState 32 = .ok (.iastore, 1) := by decide +kernel
theorem dX8_saveState_33 : decode cX8_saveState 33 = .ok (.iinc 1 1, 3) := by decide +kernel
theorem dX8_saveState_36 : decode cX8_saveState 36 = .ok (.goto (-25), 3) := by decide +kernel
theorem dX8_saveState_39 : decode cX8_saveState 39 = .ok (.aload_n 0, 1) := by decide +kernel
theorem dX8_saveState_40 : decode cX8_saveState 40 = .ok (.dup, 1) := by decide +kernel
theorem dX8_saveState_41 : decode cX8_saveState 41 = .ok (.getfield 37, 3) := by decide +kernel
theorem dX8_saveState_44 : decode cX8_saveState 44 = .ok (.iconst 1, 1) := by decide +kernel
theorem dX8_saveState_45 : decode cX8_saveState 45 = .ok (.isub, 1) := by decide +kernel
theorem dX8_saveState_46 : decode cX8_saveState 46 = .ok (.putfield 37, 3) := by decide +kernel
theorem dX8_saveState_49 : decode cX8_saveState 49 = .ok (.aload_n 0, 1) := by decide +kernel
theorem dX8_saveState_50 : decode cX8_saveState 50 = .ok (.getfield 7, 3) := by decide +kernel
theorem dX8_saveState_53 : decode cX8_saveState 53 = .ok (.iconst 0, 1) := by decide +kernel
theorem dX8_saveState_54 : decode cX8_saveState 54 = .ok (.aload_n 0, 1) := by decide +kernel
theorem dX8_saveState_55 : decode cX8_saveState 55 = .ok (.getfield 13, 3) := by decide +kernel
theorem dX8_saveState_58 : decode cX8_saveState 58 = .ok (.bipush 43, 2) := by decide +kernel
theorem dX8_saveState_60 : decode cX8_saveState 60 = .ok (.aload_n 0, 1) := by decide +kernel
theorem dX8_saveState_61 : decode cX8_saveState 61 = .ok (.getfield 37, 3) := by decide +kernel
theorem dX8_saveState_64 : decode cX8_saveState 64 = .ok (.imul, 1) := by decide +kernel
theorem dX8_saveState_65 : decode cX8_saveState 65 = .ok (.invokestatic 40, 3) := by decide +kernel
theorem dX8_saveState_68 : decode cX8_saveState 68 = .ok (.aload_n 0, 1) := by decide +kernel
theorem dX8_saveState_69 : decode cX8_saveState 69 = .ok (.dup, 1) := by decide +kernel
theorem dX8_saveState_70 : decode cX8_saveState 70 = .ok (.getfield 37, 3) := by decide +kernel
theorem dX8_saveState_73 : decode cX8_saveState 73 = .ok (.iconst 1, 1) := by decide +kernel
theorem dX8_saveState_74 : decode cX8_saveState 74 = .ok (.iadd, 1) := by decide +kernel
theorem dX8_saveState_75 : decode cX8_saveState 75 = .ok (.putfield 37, 3) := by decide +kernel
theorem dX8_saveState_78 : decode cX8_saveState 78 = .ok (.return_, 1) := by decide +kernel
set_option maxRecDepth 20000 in
theorem ggX8_undo_X8_refused : GoodIn wsX8_undo wsX8_refused := goodIn_r _ [8, 9, 13, 14, 15, 16, 17, 18, 19, 20, 21, 22, 23, 24, 25] (by decide +kernel) (by decide +kernel)
set_option maxRecDepth 20000 in
theorem gX8_undo_X8_refused : GoodIn wsX8_undo (wsV RX8 44 RX8 yX8_refused wsX8_refused) := goodIn_app (goodIn_of _ (by decide +kernel)) ggX8_undo_X8_refused
set_option maxRecDepth 20000 in
theorem ggX8_undo_X8_copyState : GoodIn wsX8_undo wsX8_copyState := goodIn_r _ [12] (by decide +kernel) (by decide +kernel)
set_option maxRecDepth 20000 in
theorem gX8_undo_X8_copyState : GoodIn wsX8_undo (va_wsS RX8 40 yX8_copyState wsX8_copyState) := goodIn_app (goodIn_of _ (by decide +kernel)) ggX8_undo_X8_copyState
theorem dX8_undo_0 : decode cX8_undo 0 = .ok (.aload_n 0, 1) := by decide +kernel
theorem dX8_undo_1 : decode cX8_undo 1 = .ok (.aload_n 0, 1) := by decide +kernel
theorem dX8_undo_2 : decode cX8_undo 2 = .ok (.getfield 37, 3) := by decide +kernel
theorem dX8_undo_5 : decode cX8_undo 5 = .ok (.ifCond .ne 7, 3) := by decide +kernel
theorem dX8_undo_8 : decode cX8_undo 8 = .ok (.iconst 1, 1) := by decide +kernel
theorem dX8_undo_9 : decode cX8_undo 9 = .ok (.goto 4, 3) := by decide +kernel
theorem dX8_undo_12 : decode cX8_undo 12 = .ok (.iconst 0, 1) := by decide +kernel
theorem dX8_undo_13 : decode cX8_undo 13 = .ok (.invokevirtual 44, 3) := by decide +kernel
theorem dX8_undo_16 : decode cX8_undo 16 = .ok (.ifCond .eq 5, 3) := by decide +kernel
theorem dX8_undo_19 : decode cX8_undo 19 = .ok (.iconst 0, 1) := by decide +kernel
theorem dX8_undo_20 : decode cX8_undo 20 = .ok (.ireturn, 1) := by decide +kernel
theorem dX8_undo_21 : decode cX8_undo 21 = .ok (.aload_n 0, 1) := by decide +kernel
theorem dX8_undo_22 : decode cX8_undo 22 = .ok (.dup, 1) := by decide +kernel
theorem dX8_undo_23 : decode cX8_undo 23 = .ok (.getfield 37, 3) := by decide +kernel
theorem dX8_undo_26 : decode cX8_undo 26 = .ok (.iconst 1, 1) := by decide +kernel
theorem dX8_undo_27 : decode cX8_undo 27 = .ok (.isub, 1) := by decide +kernel
theorem dX8_undo_28 : decode cX8_undo 28 = .ok (.putfield 37, 3) := by decide +kernel
theorem dX8_undo_31 : decode cX8_undo 31 = .ok (.aload_n 0, 1) := by decide +kernel
theorem dX8_undo_32 : decode cX8_undo 32 = .ok (.getfield 13, 3) := by decide +kernel
theorem dX8_undo_35 : decode cX8_undo 35 = .ok (.bipush 43, 2) := by decide +kernel
theorem dX8_undo_37 : decode cX8_undo 37 = .ok (.aload_n 0, 1) := by decide +kernel
theorem dX8_undo_38 : decode cX8_undo 38 = .ok (.getfield 37, 3) := by decide +kernel
theorem dX8_undo_41 : decode cX8_undo 41 = .ok (.imul, 1) := by decide +kernel
theorem dX8_undo_42 : decode cX8_undo 42 = .ok (.aload_n 0, 1) := by decide +kernel
theorem dX8_undo_43 : decode cX8_undo 43 = .ok (.getfield 7, 3) := by decide +kernel
theorem dX8_undo_46 : decode cX8_undo 46 = .ok (.iconst 0, 1) := by decide +kernel
theorem dX8_undo_47 : decode cX8_undo 47 = .ok (.invokestatic 40, 3) := by decide +kernel
theorem dX8_undo_50 : decode cX8_undo 50 = .ok (.aload_n 0, 1) := by decide +kernel
theorem dX8_undo_51 : decode cX8_undo 51 = .ok (.getfield 37, 3) := by decide +kernel
theorem dX8_undo_54 : decode cX8_undo 54 = .ok (.ireturn, 1) := by decide +kernel
theorem dX8_savedStates_0 : decode cX8_savedStates 0 = .ok (.aload_n 0, 1) := by decide +kernel
theorem dX8_savedStates_1 : decode cX8_savedStates 1 = .ok (.iconst 0, 1) := by decide +kernel
theorem dX8_savedStates_2 : decode cX8_savedStates 2 = .ok (.putfield 29, 3) := by decide +kernel
theorem dX8_savedStates_5 : decode cX8_savedStates 5 = .ok (.aload_n 0, 1) := by decide +kernel
theorem dX8_savedStates_6 : decode cX8_savedStates 6 = .ok (.getfield 37, 3) := by decide +kernel
theorem dX8_savedStates_9 : decode cX8_savedStates 9 = .ok (.ireturn, 1) := by decide +kernel
theorem dX8_sampled_0 : decode cX8_sampled 0 = .ok (.iload_n 2, 1) := by decide +kernel
theorem dX8_sampled_1 : decode cX8_sampled 1 = .ok (.iload_n 1, 1) := by decide +kernel
theorem dX8_sampled_2 : decode cX8_sampled 2 = .ok (.isub, 1) := by decide +kernel
theorem dX8_sampled_3 : decode cX8_sampled 3 = .ok (.aload_n 0, 1) := by decide +kernel
theorem dX8_sampled_4 : decode cX8_sampled 4 = .ok (.getfield 7, 3) := by decide +kernel
theorem dX8_sampled_7 : decode cX8_sampled 7 = .ok (.iconst 1, 1) := by decide +kernel
theorem dX8_sampled_8 : decode cX8_sampled 8 = .ok (.iaload, 1) := by decide +kernel
theorem dX8_sampled_9 : decode cX8_sampled 9 = .ok (.imul, 1) := by decide +kernel
theorem dX8_sampled_10 : decode cX8_sampled 10 = .ok (.bipush 16, 2) := by decide +kernel
theorem dX8_sampled_12 : decode cX8_sampled 12 = .ok (.idiv, 1) := by decide +kernel
theorem dX8_sampled_13 : decode cX8_sampled 13 = .ok (.istore_n 3, 1) := by decide +kernel
theorem dX8_sampled_14 : decode cX8_sampled 14 = .ok (.iload_n 3, 1) := by decide +kernel
theorem dX8_sampled_15 : decode cX8_sampled 15 = .ok (.ifCond .eq 9, 3) := by decide +kernel
theorem dX8_sampled_18 : decode cX8_sampled 18 = .ok (.iload_n 1, 1) := by decide +kernel
theorem dX8_sampled_19 : decode cX8_sampled 19 = .ok (.iload_n 3, 1) := by decide +kernel
theorem dX8_sampled_20 : decode cX8_sampled 20 = .ok (.iadd, 1) := by decide +kernel
theorem dX8_sampled_21 : decode cX8_sampled 21 = .ok (.goto 26, 3) := by decide +kernel
theorem dX8_sampled_24 : decode cX8_sampled 24 = .ok (.iload_n 2, 1) := by decide +kernel
theorem dX8_sampled_25 : decode cX8_sampled 25 = .ok (.iload_n 1, 1) := by decide +kernel
theorem dX8_sampled_26 : decode cX8_sampled 26 = .ok (.if_icmp .le 9, 3) := by decide +kernel
theorem dX8_sampled_29 : decode cX8_sampled 29 = .ok (.iload_n 1, 1) := by decide +kernel
theorem dX8_sampled_30 : decode cX8_sampled 30 = .ok (.iconst 1, 1) := by decide +kernel
theorem dX8_sampled_31 : decode cX8_sampled 31 = .ok (.iadd, 1) := by decide +kernel
theorem dX8_sampled_32 : decode cX8_sampled 32 = .ok (.goto 15, 3) := by decide +kernel
theorem dX8_sampled_35 : decode cX8_sampled 35 = .ok (.iload_n 2, 1) := by decide +kernel
theorem dX8_sampled_36 : decode cX8_sampled 36 = .ok (.iload_n 1, 1) := by decide +kernel
theorem dX8_sampled_37 : decode cX8_sampled 37 = .ok (.if_icmp .ge 9, 3) := by decide +kernel
theorem dX8_sampled_40 : decode cX8_sampled 40 = .ok (.iload_n 1, 1) := by decide +kernel
theorem dX8_sampled_41 : decode cX8_sampled 41 = .ok (.iconst 1, 1) := by decide +kernel
theorem dX8_sampled_42 : decode cX8_sampled 42 = .ok (.isub, 1) := by decide +kernel
theorem dX8_sampled_43 : decode cX8_sampled 43 = .ok (.goto 4, 3) := by decide +kernel
theorem dX8_sampled_46 : decode cX8_sampled 46 = .ok (.iload_n 1, 1) := by decide +kernel
theorem dX8_sampled_47 : decode cX8_sampled 47 = .ok (.ireturn, 1) := by decide +kernel
theorem dX8_held_0 : decode cX8_held 0 = .ok (.iload_n 0, 1) := by decide +kernel
theorem dX8_held_1 : decode cX8_held 1 = .ok (.iload_n 0, 1) := by decide +kernel
theorem dX8_held_2 : decode cX8_held 2 = .ok (.iload_n 1, 1) := by decide +kernel
theorem dX8_held_3 : decode cX8_held 3 = .ok (.imul, 1) := by decide +kernel
theorem dX8_held_4 : decode cX8_held 4 = .ok (.sipush 4096, 3) := by decide +kernel
theorem dX8_held_7 : decode cX8_held 7 = .ok (.idiv, 1) := by decide +kernel
theorem dX8_held_8 : decode cX8_held 8 = .ok (.isub, 1) := by decide +kernel
theorem dX8_held_9 : decode cX8_held 9 = .ok (.ireturn, 1) := by decide +kernel
set_option maxRecDepth 20000 in
theorem ggX8_sample_X8_in : GoodIn wsX8_sample wsX8_in := goodIn_r _ [6] (by decide +kernel) (by decide +kernel)
set_option maxRecDepth 20000 in
theorem gX8_sample_X8_in : GoodIn wsX8_sample (va_wsS RX8 33 yX8_in wsX8_in) := goodIn_app (goodIn_of _ (by decide +kernel)) ggX8_sample_X8_in
set_option maxRecDepth 20000 in
theorem ggX8_sample_X8_refused : GoodIn wsX8_sample wsX8_refused := goodIn_r _ [10, 11, 25, 26, 27, 28, 29, 30, 31, 32, 33, 34, 35, 36, 37] (by decide +kernel) (by decide +kernel)
set_option maxRecDepth 20000 in
theorem gX8_sample_X8_refused : GoodIn wsX8_sample (wsV RX8 44 RX8 yX8_refused wsX8_refused) := goodIn_app (goodIn_of _ (by decide +kernel)) ggX8_sample_X8_refused
set_option maxRecDepth 20000 in
theorem ggX8_sample_X8_saveState : GoodIn wsX8_sample wsX8_saveState := goodIn_r _ [15, 16, 17, 2, 18, 19, 5, 20, 25, 26, 27, 28, 29, 30, 31, 32, 33, 34, 35, 36, 37] (by decide +kernel) (by decide +kernel)
set_option maxRecDepth 20000 in
theorem gX8_sample_X8_saveState : GoodIn wsX8_sample (wsV RX8 49 RX8 yX8_saveState wsX8_saveState) := goodIn_app (goodIn_of _ (by decide +kernel)) ggX8_sample_X8_saveState
set_option maxRecDepth 20000 in
theorem ggX8_sample_X8_sampled : GoodIn wsX8_sample wsX8_sampled := goodIn_r _ [24, 2, 25, 26, 27, 28, 29, 30, 31, 32, 33, 34, 35, 36, 37] (by decide +kernel) (by decide +kernel)
set_option maxRecDepth 20000 in
theorem gX8_sample_X8_sampled : GoodIn wsX8_sample (wsV RX8 52 RX8 yX8_sampled wsX8_sampled) := goodIn_app (goodIn_of _ (by decide +kernel)) ggX8_sample_X8_sampled
theorem dX8_sample_0 : decode cX8_sample 0 = .ok (.aload_n 0, 1) := by decide +kernel
theorem dX8_sample_1 : decode cX8_sample 1 = .ok (.iload_n 1, 1) := by decide +kernel
theorem dX8_sample_2 : decode cX8_sample 2 = .ok (.iconst 0, 1) := by decide +kernel
theorem dX8_sample_3 : decode cX8_sample 3 = .ok (.ldc 48, 2) := by decide +kernel
theorem dX8_sample_5 : decode cX8_sample 5 = .ok (.invokestatic 33, 3) := by decide +kernel
theorem dX8_sample_8 : decode cX8_sample 8 = .ok (.ifCond .eq 17, 3) := by decide +kernel
theorem dX8_sample_11 : decode cX8_sample 11 = .ok (.iload_n 2, 1) := by decide +kernel
theorem dX8_sample_12 : decode cX8_sample 12 = .ok (.iconst 1, 1) := by decide +kernel
theorem dX8_sample_13 : decode cX8_sample 13 = .ok (.bipush 99, 2) := by decide +kernel
theorem dX8_sample_15 : decode cX8_sample 15 = .ok (.invokestatic 33, 3) := by decide +kernel
theorem dX8_sample_18 : decode cX8_sample 18 = .ok (.ifCond .eq 7, 3) := by decide +kernel
theorem dX8_sample_21 : decode cX8_sample 21 = .ok (.iconst 0, 1) := by decide +kernel
theorem dX8_sample_22 : decode cX8_sample 22 = .ok (.goto 4, 3) := by decide +kernel
theorem dX8_sample_25 : decode cX8_sample 25 = .ok (.iconst 1, 1) := by decide +kernel
theorem dX8_sample_26 : decode cX8_sample 26 = .ok (.invokevirtual 44, 3) := by decide +kernel
theorem dX8_sample_29 : decode cX8_sample 29 = .ok (.ifCond .eq 5, 3) := by decide +kernel
theorem dX8_sample_32 : decode cX8_sample 32 = .ok (.iconst 0, 1) := by decide +kernel
theorem dX8_sample_33 : decode cX8_sample 33 = .ok (.ireturn, 1) := by decide +kernel
theorem dX8_sample_34 : decode cX8_sample 34 = .ok (.aload_n 0, 1) := by decide +kernel
theorem dX8_sample_35 : decode cX8_sample 35 = .ok (.invokevirtual 49, 3) := by decide +kernel
theorem dX8_sample_38 : decode cX8_sample 38 = .ok (.iconst 0, 1) := by decide +kernel
theorem dX8_sample_39 : decode cX8_sample 39 = .ok (.istore_n 3, 1) := by decide +kernel
theorem dX8_sample_40 : decode cX8_sample 40 = .ok (.iload_n 3, 1) := by decide +kernel
theorem dX8_sample_41 : decode cX8_sample 41 = .ok (.iload_n 2, 1) := by decide +kernel
theorem dX8_sample_42 : decode cX8_sample 42 = .ok (.if_icmp .ge 26, 3) := by decide +kernel
theorem dX8_sample_45 : decode cX8_sample 45 = .ok (.aload_n 0, 1) := by decide +kernel
theorem dX8_sample_46 : decode cX8_sample 46 = .ok (.getfield 7, 3) := by decide +kernel
theorem dX8_sample_49 : decode cX8_sample 49 = .ok (.iconst 0, 1) := by decide +kernel
theorem dX8_sample_50 : decode cX8_sample 50 = .ok (.aload_n 0, 1) := by decide +kernel
theorem dX8_sample_51 : decode cX8_sample 51 = .ok (.aload_n 0, 1) := by decide +kernel
theorem dX8_sample_52 : decode cX8_sample 52 = .ok (.getfield 7, 3) := by decide +kernel
theorem dX8_sample_55 : decode cX8_sample 55 = .ok (.iconst 0, 1) := by decide +kernel
theorem dX8_sample_56 : decode cX8_sample 56 = .ok (.iaload, 1) := by decide +kernel
theorem dX8_sample_57 : decode cX8_sample 57 = .ok (.iload_n 1, 1) := by decide +kernel
theorem dX8_sample_58 : decode cX8_sample 58 = .ok (.invokevirtual 52, 3) := by decide +kernel
theorem dX8_sample_61 : decode cX8_sample 61 = .ok (.iastore, 1) := by decide +kernel
theorem dX8_sample_62 : decode cX8_sample 62 = .ok (.iinc 3 1, 3) := by decide +kernel
theorem dX8_sample_65 : decode cX8_sample 65 = .ok (.goto (-25), 3) := by decide +kernel
theorem dX8_sample_68 : decode cX8_sample 68 = .ok (.aload_n 0, 1) := by decide +kernel
theorem dX8_sample_69 : decode cX8_sample 69 = .ok (.getfield 7, 3) := by decide +kernel
theorem dX8_sample_72 : decode cX8_sample 72 = .ok (.iconst 0, 1) := by decide +kernel
theorem dX8_sample_73 : decode cX8_sample 73 = .ok (.iaload, 1) := by decide +kernel
theorem dX8_sample_74 : decode cX8_sample 74 = .ok (.ireturn, 1) := by decide +kernel
set_option maxRecDepth 20000 in
theorem ggX8_hold_X8_in : GoodIn wsX8_hold wsX8_in := goodIn_r _ [5] (by decide +kernel) (by decide +kernel)
set_option maxRecDepth 20000 in
theorem gX8_hold_X8_in : GoodIn wsX8_hold (va_wsS RX8 33 yX8_in wsX8_in) := goodIn_app (goodIn_of _ (by decide +kernel)) ggX8_hold_X8_in
set_option maxRecDepth 20000 in
theorem ggX8_hold_X8_refused : GoodIn wsX8_hold wsX8_refused := goodIn_r _ [9, 10, 23, 24, 25, 26, 27, 28, 29, 30, 31, 32, 33, 34, 35] (by decide +kernel) (by decide +kernel)
set_option maxRecDepth 20000 in
theorem gX8_hold_X8_refused : GoodIn wsX8_hold (wsV RX8 44 RX8 yX8_refused wsX8_refused) := goodIn_app (goodIn_of _ (by decide +kernel)) ggX8_hold_X8_refused
set_option maxRecDepth 20000 in
theorem ggX8_hold_X8_saveState : GoodIn wsX8_hold wsX8_saveState := goodIn_r _ [14, 15, 16, 1, 17, 18, 4, 19, 23, 24, 25, 26, 27, 28, 29, 30, 31, 32, 33, 34, 35] (by decide +kernel) (by decide +kernel)
set_option maxRecDepth 20000 in
theorem gX8_hold_X8_saveState : GoodIn wsX8_hold (wsV RX8 49 RX8 yX8_saveState wsX8_saveState) := goodIn_app (goodIn_of _ (by decide +kernel)) ggX8_hold_X8_saveState
set_option maxRecDepth 20000 in
theorem ggX8_hold_X8_held : GoodIn wsX8_hold wsX8_held := goodIn_r _ [22] (by decide +kernel) (by decide +kernel)
set_option maxRecDepth 20000 in
theorem gX8_hold_X8_held : GoodIn wsX8_hold (va_wsS RX8 56 yX8_held wsX8_held) := goodIn_app (goodIn_of _ (by decide +kernel)) ggX8_hold_X8_held
theorem dX8_hold_0 : decode cX8_hold 0 = .ok (.aload_n 0, 1) := by decide +kernel
theorem dX8_hold_1 : decode cX8_hold 1 = .ok (.iload_n 1, 1) := by decide +kernel
theorem dX8_hold_2 : decode cX8_hold 2 = .ok (.iconst 1, 1) := by decide +kernel
theorem dX8_hold_3 : decode cX8_hold 3 = .ok (.bipush 99, 2) := by decide +kernel
theorem dX8_hold_5 : decode cX8_hold 5 = .ok (.invokestatic 33, 3) := by decide +kernel
theorem dX8_hold_8 : decode cX8_hold 8 = .ok (.ifCond .eq 7, 3) := by decide +kernel
theorem dX8_hold_11 : decode cX8_hold 11 = .ok (.iconst 0, 1) := by decide +kernel
theorem dX8_hold_12 : decode cX8_hold 12 = .ok (.goto 4, 3) := by decide +kernel
theorem dX8_hold_15 : decode cX8_hold 15 = .ok (.iconst 1, 1) := by decide +kernel
theorem dX8_hold_16 : decode cX8_hold 16 = .ok (.invokevirtual 44, 3) := by decide +kernel
theorem dX8_hold_19 : decode cX8_hold 19 = .ok (.ifCond .eq 5, 3) := by decide +kernel
theorem dX8_hold_22 : decode cX8_hold 22 = .ok (.iconst 0, 1) := by decide +kernel
theorem dX8_hold_23 : decode cX8_hold 23 = .ok (.ireturn, 1) := by decide +kernel
theorem dX8_hold_24 : decode cX8_hold 24 = .ok (.aload_n 0, 1) := by decide +kernel
theorem dX8_hold_25 : decode cX8_hold 25 = .ok (.invokevirtual 49, 3) := by decide +kernel
theorem dX8_hold_28 : decode cX8_hold 28 = .ok (.iconst 0, 1) := by decide +kernel
theorem dX8_hold_29 : decode cX8_hold 29 = .ok (.istore_n 2, 1) := by decide +kernel
theorem dX8_hold_30 : decode cX8_hold 30 = .ok (.iload_n 2, 1) := by decide +kernel
theorem dX8_hold_31 : decode cX8_hold 31 = .ok (.iload_n 1, 1) := by decide +kernel
theorem dX8_hold_32 : decode cX8_hold 32 = .ok (.if_icmp .ge 30, 3) := by decide +kernel
theorem dX8_hold_35 : decode cX8_hold 35 = .ok (.aload_n 0, 1) := by decide +kernel
theorem dX8_hold_36 : decode cX8_hold 36 = .ok (.getfield 7, 3) := by decide +kernel
theorem dX8_hold_39 : decode cX8_hold 39 = .ok (.iconst 0, 1) := by decide +kernel
theorem dX8_hold_40 : decode cX8_hold 40 = .ok (.aload_n 0, 1) := by decide +kernel
theorem dX8_hold_41 : decode cX8_hold 41 = .ok (.getfield 7, 3) := by decide +kernel
theorem dX8_hold_44 : decode cX8_hold 44 = .ok (.iconst 0, 1) := by decide +kernel
theorem dX8_hold_45 : decode cX8_hold 45 = .ok (.iaload, 1) := by decide +kernel
theorem dX8_hold_46 : decode cX8_hold 46 = .ok (.aload_n 0, 1) := by decide +kernel
theorem dX8_hold_47 : decode cX8_hold 47 = .ok (.getfield 7, 3) := by decide +kernel
theorem dX8_hold_50 : decode cX8_hold 50 = .ok (.iconst 2, 1) := by decide +kernel
theorem dX8_hold_51 : decode cX8_hold 51 = .ok (.iaload, 1) := by decide +kernel
theorem dX8_hold_52 : decode cX8_hold 52 = .ok (.invokestatic 56, 3) := by decide +kernel
theorem dX8_hold_55 : decode cX8_hold 55 = .ok (.iastore, 1) := by decide +kernel
theorem dX8_hold_56 : decode cX8_hold 56 = .ok (.iinc 2 1, 3) := by decide +kernel
theorem dX8_hold_59 : decode cX8_hold 59 = .ok (.goto (-29), 3) := by decide +kernel
theorem dX8_hold_62 : decode cX8_hold 62 = .ok (.aload_n 0, 1) := by decide +kernel
theorem dX8_hold_63 : decode cX8_hold 63 = .ok (.getfield 7, 3) := by decide +kernel
theorem dX8_hold_66 : decode cX8_hold 66 = .ok (.iconst 0, 1) := by decide +kernel
theorem dX8_hold_67 : decode cX8_hold 67 = .ok (.iaload, 1) := by decide +kernel
theorem dX8_hold_68 : decode cX8_hold 68 = .ok (.ireturn, 1) := by decide +kernel
theorem dX8_voltage_0 : decode cX8_voltage 0 = .ok (.aload_n 0, 1) := by decide +kernel
theorem dX8_voltage_1 : decode cX8_voltage 1 = .ok (.iconst 0, 1) := by decide +kernel
theorem dX8_voltage_2 : decode cX8_voltage 2 = .ok (.putfield 29, 3) := by decide +kernel
theorem dX8_voltage_5 : decode cX8_voltage 5 = .ok (.aload_n 0, 1) := by decide +kernel
theorem dX8_voltage_6 : decode cX8_voltage 6 = .ok (.getfield 7, 3) := by decide +kernel
theorem dX8_voltage_9 : decode cX8_voltage 9 = .ok (.iconst 0, 1) := by decide +kernel
theorem dX8_voltage_10 : decode cX8_voltage 10 = .ok (.iaload, 1) := by decide +kernel
theorem dX8_voltage_11 : decode cX8_voltage 11 = .ok (.ireturn, 1) := by decide +kernel
set_option maxRecDepth 20000 in
theorem ggX8_change_X8_saveState : GoodIn wsX8_change wsX8_saveState := goodIn_r _ [6, 7, 8, 1, 9, 10, 5, 11, 12, 13, 14, 15, 16, 17, 18, 19, 20, 21, 22, 23, 24] (by decide +kernel) (by decide +kernel)
set_option maxRecDepth 20000 in
theorem gX8_change_X8_saveState : GoodIn wsX8_change (wsV RX8 49 RX8 yX8_saveState wsX8_saveState) := goodIn_app (goodIn_of _ (by decide +kernel)) ggX8_change_X8_saveState
theorem dX8_change_0 : decode cX8_change 0 = .ok (.aload_n 0, 1) := by decide +kernel
theorem dX8_change_1 : decode cX8_change 1 = .ok (.invokevirtual 49, 3) := by decide +kernel
theorem dX8_change_4 : decode cX8_change 4 = .ok (.aload_n 0, 1) := by decide +kernel
theorem dX8_change_5 : decode cX8_change 5 = .ok (.getfield 7, 3) := by decide +kernel
theorem dX8_change_8 : decode cX8_change 8 = .ok (.iload_n 1, 1) := by decide +kernel
theorem dX8_change_9 : decode cX8_change 9 = .ok (.iaload, 1) := by decide +kernel
theorem dX8_change_10 : decode cX8_change 10 = .ok (.istore_n 3, 1) := by decide +kernel
theorem dX8_change_11 : decode cX8_change 11 = .ok (.aload_n 0, 1) := by decide +kernel
theorem dX8_change_12 : decode cX8_change 12 = .ok (.getfield 7, 3) := by decide +kernel
theorem dX8_change_15 : decode cX8_change 15 = .ok (.iload_n 1, 1) := by decide +kernel
theorem dX8_change_16 : decode cX8_change 16 = .ok (.iload_n 2, 1) := by decide +kernel
theorem dX8_change_17 : decode cX8_change 17 = .ok (.iastore, 1) := by decide +kernel
theorem dX8_change_18 : decode cX8_change 18 = .ok (.iload_n 3, 1) := by decide +kernel
theorem dX8_change_19 : decode cX8_change 19 = .ok (.ireturn, 1) := by decide +kernel
set_option maxRecDepth 20000 in
theorem ggX8_setCapacitor_X8_in : GoodIn wsX8_setCapacitor wsX8_in := goodIn_r _ [5] (by decide +kernel) (by decide +kernel)
set_option maxRecDepth 20000 in
theorem gX8_setCapacitor_X8_in : GoodIn wsX8_setCapacitor (va_wsS RX8 33 yX8_in wsX8_in) := goodIn_app (goodIn_of _ (by decide +kernel)) ggX8_setCapacitor_X8_in
set_option maxRecDepth 20000 in
theorem ggX8_setCapacitor_X8_refused : GoodIn wsX8_setCapacitor wsX8_refused := goodIn_r _ [9, 10, 24, 25, 26, 27, 28, 29, 30, 31, 32, 33, 34, 35, 36] (by decide +kernel) (by decide +kernel)
set_option maxRecDepth 20000 in
theorem gX8_setCapacitor_X8_refused : GoodIn wsX8_setCapacitor (wsV RX8 44 RX8 yX8_refused wsX8_refused) := goodIn_app (goodIn_of _ (by decide +kernel)) ggX8_setCapacitor_X8_refused
set_option maxRecDepth 20000 in
theorem ggX8_setCapacitor_X8_change : GoodIn wsX8_setCapacitor wsX8_change := goodIn_r _ [14, 1, 15, 16, 17, 4, 18, 19, 20, 21, 22, 23, 24, 25, 26, 27, 28, 29, 30, 31, 32, 33, 34, 35, 36] (by decide +kernel) (by decide +kernel)
set_option maxRecDepth 20000 in
theorem gX8_setCapacitor_X8_change : GoodIn wsX8_setCapacitor (wsV RX8 59 RX8 yX8_change wsX8_change) := goodIn_app (goodIn_of _ (by decide +kernel)) ggX8_setCapacitor_X8_change
theorem dX8_setCapacitor_0 : decode cX8_setCapacitor 0 = .ok (.aload_n 0, 1) := by decide +kernel
theorem dX8_setCapacitor_1 : decode cX8_setCapacitor 1 = .ok (.iload_n 1, 1) := by decide +kernel
theorem dX8_setCapacitor_2 : decode cX8_setCapacitor 2 = .ok (.iconst 1, 1) := by decide +kernel
theorem dX8_setCapacitor_3 : decode cX8_setCapacitor 3 = .ok (.bipush 16, 2) := by decide +kernel
theorem dX8_setCapacitor_5 : decode cX8_setCapacitor 5 = .ok (.invokestatic 33, 3) := by decide +kernel
theorem dX8_setCapacitor_8 : decode cX8_setCapacitor 8 = .ok (.ifCond .eq 17, 3) := by decide +kernel
theorem dX8_setCapacitor_11 : decode cX8_setCapacitor 11 = .ok (.iload_n 2, 1) := by decide +kernel
theorem dX8_setCapacitor_12 : decode cX8_setCapacitor 12 = .ok (.iconst 0, 1) := by decide +kernel
theorem dX8_setCapacitor_13 : decode cX8_setCapacitor 13 = .ok (.bipush 64, 2) := by decide +kernel
theorem dX8_setCapacitor_15 : decode cX8_setCapacitor 15 = .ok (.invokestatic 33, 3) := by decide +kernel
theorem dX8_setCapacitor_18 : decode cX8_setCapacitor 18 = .ok (.ifCond .eq 7, 3) := by decide +kernel
theorem dX8_setCapacitor_21 : decode cX8_setCapacitor 21 = .ok (.iconst 0, 1) := by decide +kernel
theorem dX8_setCapacitor_22 : decode cX8_setCapacitor 22 = .ok (.goto 4, 3) := by decide +kernel
theorem dX8_setCapacitor_25 : decode cX8_setCapacitor 25 = .ok (.iconst 1, 1) := by decide +kernel
theorem dX8_setCapacitor_26 : decode cX8_setCapacitor 26 = .ok (.invokevirtual 44, 3) := by decide +kernel
theorem dX8_setCapacitor_29 : decode cX8_setCapacitor 29 = .ok (.ifCond .eq 5, 3) := by decide +kernel
theorem dX8_setCapacitor_32 : decode cX8_setCapacitor 32 = .ok (.iconst 0, 1) := by decide +kernel
theorem dX8_setCapacitor_33 : decode cX8_setCapacitor 33 = .ok (.ireturn, 1) := by decide +kernel
theorem dX8_setCapacitor_34 : decode cX8_setCapacitor 34 = .ok (.aload_n 0, 1) := by decide +kernel
theorem dX8_setCapacitor_35 : decode cX8_setCapacitor 35 = .ok (.iconst 1, 1) := by decide +kernel
theorem dX8_setCapacitor_36 : decode cX8_setCapacitor 36 = .ok (.iload_n 1, 1) := by decide +kernel
theorem dX8_setCapacitor_37 : decode cX8_setCapacitor 37 = .ok (.invokevirtual 59, 3) := by decide +kernel
theorem dX8_setCapacitor_40 : decode cX8_setCapacitor 40 = .ok (.istore_n 3, 1) := by decide +kernel
theorem dX8_setCapacitor_41 : decode cX8_setCapacitor 41 = .ok (.aload_n 0, 1) := by decide +kernel
theorem dX8_setCapacitor_42 : decode cX8_setCapacitor 42 = .ok (.getfield 7, 3) := by decide +kernel
theorem dX8_setCapacitor_45 : decode cX8_setCapacitor 45 = .ok (.iconst 2, 1) := by decide +kernel
theorem dX8_setCapacitor_46 : decode cX8_setCapacitor 46 = .ok (.iload_n 2, 1) := by decide +kernel
theorem dX8_setCapacitor_47 : decode cX8_setCapacitor 47 = .ok (.iastore, 1) := by decide +kernel
theorem dX8_setCapacitor_48 : decode cX8_setCapacitor 48 = .ok (.iload_n 3, 1) := by decide +kernel
theorem dX8_setCapacitor_49 : decode cX8_setCapacitor 49 = .ok (.ireturn, 1) := by decide +kernel
set_option maxRecDepth 20000 in
theorem ggX8_setOffset_X8_in : GoodIn wsX8_setOffset wsX8_in := goodIn_r _ [4] (by decide +kernel) (by decide +kernel)
set_option maxRecDepth 20000 in
theorem gX8_setOffset_X8_in : GoodIn wsX8_setOffset (va_wsS RX8 33 yX8_in wsX8_in) := goodIn_app (goodIn_of _ (by decide +kernel)) ggX8_setOffset_X8_in
set_option maxRecDepth 20000 in
theorem ggX8_setOffset_X8_refused : GoodIn wsX8_setOffset wsX8_refused := goodIn_r _ [8, 9, 24, 25, 26, 27, 28, 29, 30, 31, 32, 33, 34, 35, 36] (by decide +kernel) (by decide +kernel)
set_option maxRecDepth 20000 in
theorem gX8_setOffset_X8_refused : GoodIn wsX8_setOffset (wsV RX8 44 RX8 yX8_refused wsX8_refused) := goodIn_app (goodIn_of _ (by decide +kernel)) ggX8_setOffset_X8_refused
set_option maxRecDepth 20000 in
theorem ggX8_setOffset_X8_change : GoodIn wsX8_setOffset wsX8_change := goodIn_r _ [13, 14, 15, 16, 17, 3, 18, 19, 20, 21, 22, 23, 24, 25, 26, 27, 28, 29, 30, 31, 32, 33, 34, 35, 36] (by decide +kernel) (by decide +kernel)
set_option maxRecDepth 20000 in
theorem gX8_setOffset_X8_change : GoodIn wsX8_setOffset (wsV RX8 59 RX8 yX8_change wsX8_change) := goodIn_app (goodIn_of _ (by decide +kernel)) ggX8_setOffset_X8_change
theorem dX8_setOffset_0 : decode cX8_setOffset 0 = .ok (.aload_n 0, 1) := by decide +kernel
theorem dX8_setOffset_1 : decode cX8_setOffset 1 = .ok (.iload_n 1, 1) := by decide +kernel
theorem dX8_setOffset_2 : decode cX8_setOffset 2 = .ok (.bipush (-64), 2) := by decide +kernel
theorem dX8_setOffset_4 : decode cX8_setOffset 4 = .ok (.bipush 64, 2) := by decide +kernel
theorem dX8_setOffset_6 : decode cX8_setOffset 6 = .ok (.invokestatic 33, 3) := by decide +kernel
theorem dX8_setOffset_9 : decode cX8_setOffset 9 = .ok (.ifCond .eq 7, 3) := by decide +kernel
theorem dX8_setOffset_12 : decode cX8_setOffset 12 = .ok (.iconst 0, 1) := by decide +kernel
theorem dX8_setOffset_13 : decode cX8_setOffset 13 = .ok (.goto 4, 3) := by decide +kernel
theorem dX8_setOffset_16 : decode cX8_setOffset 16 = .ok (.iconst 1, 1) := by decide +kernel
theorem dX8_setOffset_17 : decode cX8_setOffset 17 = .ok (.invokevirtual 44, 3) := by decide +kernel
theorem dX8_setOffset_20 : decode cX8_setOffset 20 = .ok (.ifCond .eq 7, 3) := by decide +kernel
theorem dX8_setOffset_23 : decode cX8_setOffset 23 = .ok (.iconst 0, 1) := by decide +kernel
theorem dX8_setOffset_24 : decode cX8_setOffset 24 = .ok (.goto 9, 3) := by decide +kernel
theorem dX8_setOffset_27 : decode cX8_setOffset 27 = .ok (.aload_n 0, 1) := by decide +kernel
theorem dX8_setOffset_28 : decode cX8_setOffset 28 = .ok (.iconst 3, 1) := by decide +kernel
theorem dX8_setOffset_29 : decode cX8_setOffset 29 = .ok (.iload_n 1, 1) := by decide +kernel
theorem dX8_setOffset_30 : decode cX8_setOffset 30 = .ok (.invokevirtual 59, 3) := by decide +kernel
theorem dX8_setOffset_33 : decode cX8_setOffset 33 = .ok (.ireturn, 1) := by decide +kernel
set_option maxRecDepth 20000 in
theorem ggX8_setGlitch_X8_in : GoodIn wsX8_setGlitch wsX8_in := goodIn_r _ [5] (by decide +kernel) (by decide +kernel)
set_option maxRecDepth 20000 in
theorem gX8_setGlitch_X8_in : GoodIn wsX8_setGlitch (va_wsS RX8 33 yX8_in wsX8_in) := goodIn_app (goodIn_of _ (by decide +kernel)) ggX8_setGlitch_X8_in
set_option maxRecDepth 20000 in
theorem ggX8_setGlitch_X8_refused : GoodIn wsX8_setGlitch wsX8_refused := goodIn_r _ [9, 10, 20, 21, 22, 23, 24, 25, 26, 27, 28, 29, 30, 31, 32] (by decide +kernel) (by decide +kernel)
set_option maxRecDepth 20000 in
theorem gX8_setGlitch_X8_refused : GoodIn wsX8_setGlitch (wsV RX8 44 RX8 yX8_refused wsX8_refused) := goodIn_app (goodIn_of _ (by decide +kernel)) ggX8_setGlitch_X8_refused
set_option maxRecDepth 20000 in
theorem ggX8_setGlitch_X8_saveState : GoodIn wsX8_setGlitch wsX8_saveState := goodIn_r _ [14, 15, 16, 1, 17, 18, 4, 19, 20, 21, 22, 23, 24, 25, 26, 27, 28, 29, 30, 31, 32] (by decide +kernel) (by decide +kernel)
set_option maxRecDepth 20000 in
theorem gX8_setGlitch_X8_saveState : GoodIn wsX8_setGlitch (wsV RX8 49 RX8 yX8_saveState wsX8_saveState) := goodIn_app (goodIn_of _ (by decide +kernel)) ggX8_setGlitch_X8_saveState
theorem dX8_setGlitch_0 : decode cX8_setGlitch 0 = .ok (.aload_n 0, 1) := by decide +kernel
theorem dX8_setGlitch_1 : decode cX8_setGlitch 1 = .ok (.iload_n 1, 1) := by decide +kernel
theorem dX8_setGlitch_2 : decode cX8_setGlitch 2 = .ok (.iconst 0, 1) := by decide +kernel
theorem dX8_setGlitch_3 : decode cX8_setGlitch 3 = .ok (.bipush 11, 2) := by decide +kernel
theorem dX8_setGlitch_5 : decode cX8_setGlitch 5 = .ok (.invokestatic 33, 3) := by decide +kernel
theorem dX8_setGlitch_8 : decode cX8_setGlitch 8 = .ok (.ifCond .eq 7, 3) := by decide +kernel
theorem dX8_setGlitch_11 : decode cX8_setGlitch 11 = .ok (.iconst 0, 1) := by decide +kernel
theorem dX8_setGlitch_12 : decode cX8_setGlitch 12 = .ok (.goto 4, 3) := by decide +kernel
theorem dX8_setGlitch_15 : decode cX8_setGlitch 15 = .ok (.iconst 1, 1) := by decide +kernel
theorem dX8_setGlitch_16 : decode cX8_setGlitch 16 = .ok (.invokevirtual 44, 3) := by decide +kernel
theorem dX8_setGlitch_19 : decode cX8_setGlitch 19 = .ok (.ifCond .eq 5, 3) := by decide +kernel
theorem dX8_setGlitch_22 : decode cX8_setGlitch 22 = .ok (.iconst 0, 1) := by decide +kernel
theorem dX8_setGlitch_23 : decode cX8_setGlitch 23 = .ok (.ireturn, 1) := by decide +kernel
theorem dX8_setGlitch_24 : decode cX8_setGlitch 24 = .ok (.aload_n 0, 1) := by decide +kernel
theorem dX8_setGlitch_25 : decode cX8_setGlitch 25 = .ok (.invokevirtual 49, 3) := by decide +kernel
theorem dX8_setGlitch_28 : decode cX8_setGlitch 28 = .ok (.aload_n 0, 1) := by decide +kernel
theorem dX8_setGlitch_29 : decode cX8_setGlitch 29 = .ok (.getfield 7, 3) := by decide +kernel
theorem dX8_setGlitch_32 : decode cX8_setGlitch 32 = .ok (.iconst 4, 1) := by decide +kernel
theorem dX8_setGlitch_33 : decode cX8_setGlitch 33 = .ok (.iaload, 1) := by decide +kernel
theorem dX8_setGlitch_34 : decode cX8_setGlitch 34 = .ok (.iload_n 1, 1) := by decide +kernel
theorem dX8_setGlitch_35 : decode cX8_setGlitch 35 = .ok (.ishr, 1) := by decide +kernel
theorem dX8_setGlitch_36 : decode cX8_setGlitch 36 = .ok (.iconst 1, 1) := by decide +kernel
theorem dX8_setGlitch_37 : decode cX8_setGlitch 37 = .ok (.iand, 1) := by decide +kernel
theorem dX8_setGlitch_38 : decode cX8_setGlitch 38 = .ok (.iconst 1, 1) := by decide +kernel
theorem dX8_setGlitch_39 : decode cX8_setGlitch 39 = .ok (.if_icmp .ne 7, 3) := by decide +kernel
theorem dX8_setGlitch_42 : decode cX8_setGlitch 42 = .ok (.iconst 1, 1) := by decide +kernel
theorem dX8_setGlitch_43 : decode cX8_setGlitch 43 = .ok (.goto 4, 3) := by decide +kernel
theorem dX8_setGlitch_46 : decode cX8_setGlitch 46 = .ok (.iconst 0, 1) := by decide +kernel
theorem dX8_setGlitch_47 : decode cX8_setGlitch 47 = .ok (.istore_n 2, 1) := by decide +kernel
theorem dX8_setGlitch_48 : decode cX8_setGlitch 48 = .ok (.aload_n 0, 1) := by decide +kernel
theorem dX8_setGlitch_49 : decode cX8_setGlitch 49 = .ok (.getfield 7, 3) := by decide +kernel
theorem dX8_setGlitch_52 : decode cX8_setGlitch 52 = .ok (.iconst 4, 1) := by decide +kernel
theorem dX8_setGlitch_53 : decode cX8_setGlitch 53 = .ok (.dup2, 1) := by decide +kernel
theorem dX8_setGlitch_54 : decode cX8_setGlitch 54 = .ok (.iaload, 1) := by decide +kernel
theorem dX8_setGlitch_55 : decode cX8_setGlitch 55 = .ok (.iconst 1, 1) := by decide +kernel
theorem dX8_setGlitch_56 : decode cX8_setGlitch 56 = .ok (.iload_n 1, 1) := by decide +kernel
theorem dX8_setGlitch_57 : decode cX8_setGlitch 57 = .ok (.ishl, 1) := by decide +kernel
theorem dX8_setGlitch_58 : decode cX8_setGlitch 58 = .ok (.ior, 1) := by decide +kernel
theorem dX8_setGlitch_59 : decode cX8_setGlitch 59 = .ok (.iastore, 1) := by decide +kernel
theorem dX8_setGlitch_60 : decode cX8_setGlitch 60 = .ok (.iload_n 2, 1) := by decide +kernel
theorem dX8_setGlitch_61 : decode cX8_setGlitch 61 = .ok (.ireturn, 1) := by decide +kernel
set_option maxRecDepth 20000 in
theorem ggX8_setWeight_X8_isWeight : GoodIn wsX8_setWeight wsX8_isWeight := goodIn_r _ [5, 6, 7, 8, 4, 9, 28, 29, 30, 31, 32, 33, 34, 35, 36, 37, 38, 39, 40] (by decide +kernel) (by decide +kernel)
set_option maxRecDepth 20000 in
theorem gX8_setWeight_X8_isWeight : GoodIn wsX8_setWeight (wsV RX8 62 RX8 yX8_isWeight wsX8_isWeight) := goodIn_app (goodIn_of _ (by decide +kernel)) ggX8_setWeight_X8_isWeight
set_option maxRecDepth 20000 in
theorem ggX8_setWeight_X8_in : GoodIn wsX8_setWeight wsX8_in := goodIn_r _ [9] (by decide +kernel) (by decide +kernel)
set_option maxRecDepth 20000 in
theorem gX8_setWeight_X8_in : GoodIn wsX8_setWeight (va_wsS RX8 33 yX8_in wsX8_in) := goodIn_app (goodIn_of _ (by decide +kernel)) ggX8_setWeight_X8_in
set_option maxRecDepth 20000 in
theorem ggX8_setWeight_X8_refused : GoodIn wsX8_setWeight wsX8_refused := goodIn_r _ [13, 14, 28, 29, 30, 31, 32, 33, 34, 35, 36, 37, 38, 39, 40] (by decide +kernel) (by decide +kernel)
set_option maxRecDepth 20000 in
theorem gX8_setWeight_X8_refused : GoodIn wsX8_setWeight (wsV RX8 44 RX8 yX8_refused wsX8_refused) := goodIn_app (goodIn_of _ (by decide +kernel)) ggX8_setWeight_X8_refused
set_option maxRecDepth 20000 in
theorem ggX8_setWeight_X8_change : GoodIn wsX8_setWeight wsX8_change := goodIn_r _ [18, 6, 19, 20, 21, 4, 22, 23, 24, 25, 26, 27, 28, 29, 30, 31, 32, 33, 34, 35, 36, 37, 38, 39, 40] (by decide +kernel) (by decide +kernel)
set_option maxRecDepth 20000 in
theorem gX8_setWeight_X8_change : GoodIn wsX8_setWeight (wsV RX8 59 RX8 yX8_change wsX8_change) := goodIn_app (goodIn_of _ (by decide +kernel)) ggX8_setWeight_X8_change
theorem dX8_setWeight_0 : decode cX8_setWeight 0 = .ok (.aload_n 0, 1) := by decide +kernel
theorem dX8_setWeight_1 : decode cX8_setWeight 1 = .ok (.aload_n 0, 1) := by decide +kernel
theorem dX8_setWeight_2 : decode cX8_setWeight 2 = .ok (.iload_n 1, 1) := by decide +kernel
theorem dX8_setWeight_3 : decode cX8_setWeight 3 = .ok (.invokevirtual 62, 3) := by decide +kernel
theorem dX8_setWeight_6 : decode cX8_setWeight 6 = .ok (.ifCond .ne 7, 3) := by decide +kernel
theorem dX8_setWeight_9 : decode cX8_setWeight 9 = .ok (.iconst 1, 1) := by decide +kernel
theorem dX8_setWeight_10 : decode cX8_setWeight 10 = .ok (.goto 19, 3) := by decide +kernel
theorem dX8_setWeight_13 : decode cX8_setWeight 13 = .ok (.iload_n 2, 1) := by decide +kernel
theorem dX8_setWeight_14 : decode cX8_setWeight 14 = .ok (.iconst 1, 1) := by decide +kernel
theorem dX8_setWeight_15 : decode cX8_setWeight 15 = .ok (.sipush 2048, 3) := by decide +kernel
theorem dX8_setWeight_18 : decode cX8_setWeight 18 = .ok (.invokestatic 33, 3) := by decide +kernel
theorem dX8_setWeight_21 : decode cX8_setWeight 21 = .ok (.ifCond .eq 7, 3) := by decide +kernel
theorem dX8_setWeight_24 : decode cX8_setWeight 24 = .ok (.iconst 0, 1) := by decide +kernel
theorem dX8_setWeight_25 : decode cX8_setWeight 25 = .ok (.goto 4, 3) := by decide +kernel
theorem dX8_setWeight_28 : decode cX8_setWeight 28 = .ok (.iconst 2, 1) := by decide +kernel
theorem dX8_setWeight_29 : decode cX8_setWeight 29 = .ok (.invokevirtual 44, 3) := by decide +kernel
theorem dX8_setWeight_32 : decode cX8_setWeight 32 = .ok (.ifCond .eq 7, 3) := by decide +kernel
theorem dX8_setWeight_35 : decode cX8_setWeight 35 = .ok (.iconst 0, 1) := by decide +kernel
theorem dX8_setWeight_36 : decode cX8_setWeight 36 = .ok (.goto 12, 3) := by decide +kernel
theorem dX8_setWeight_39 : decode cX8_setWeight 39 = .ok (.aload_n 0, 1) := by decide +kernel
theorem dX8_setWeight_40 : decode cX8_setWeight 40 = .ok (.bipush 7, 2) := by decide +kernel
theorem dX8_setWeight_42 : decode cX8_setWeight 42 = .ok (.iload_n 1, 1) := by decide +kernel
theorem dX8_setWeight_43 : decode cX8_setWeight 43 = .ok (.iadd, 1) := by decide +kernel
theorem dX8_setWeight_44 : decode cX8_setWeight 44 = .ok (.iload_n 2, 1) := by decide +kernel
theorem dX8_setWeight_45 : decode cX8_setWeight 45 = .ok (.invokevirtual 59, 3) := by decide +kernel
theorem dX8_setWeight_48 : decode cX8_setWeight 48 = .ok (.ireturn, 1) := by decide +kernel
set_option maxRecDepth 20000 in
theorem ggX8_insertWeight_X8_in : GoodIn wsX8_insertWeight wsX8_in := goodIn_r _ [5] (by decide +kernel) (by decide +kernel)
set_option maxRecDepth 20000 in
theorem gX8_insertWeight_X8_in : GoodIn wsX8_insertWeight (va_wsS RX8 33 yX8_in wsX8_in) := goodIn_app (goodIn_of _ (by decide +kernel)) ggX8_insertWeight_X8_in
set_option maxRecDepth 20000 in
theorem ggX8_insertWeight_X8_refused : GoodIn wsX8_insertWeight wsX8_refused := goodIn_r _ [9, 10, 20, 21, 22, 23, 24, 25, 26, 27, 28, 29, 30, 31, 32] (by decide +kernel) (by decide +kernel)
set_option maxRecDepth 20000 in
theorem gX8_insertWeight_X8_refused : GoodIn wsX8_insertWeight (wsV RX8 44 RX8 yX8_refused wsX8_refused) := goodIn_app (goodIn_of _ (by decide +kernel)) ggX8_insertWeight_X8_refused
set_option maxRecDepth 20000 in
theorem ggX8_insertWeight_X8_saveState : GoodIn wsX8_insertWeight wsX8_saveState := goodIn_r _ [14, 15, 16, 1, 17, 18, 4, 19, 20, 21, 22, 23, 24, 25, 26, 27, 28, 29, 30, 31, 32] (by decide +kernel) (by decide +kernel)
set_option maxRecDepth 20000 in
theorem gX8_insertWeight_X8_saveState : GoodIn wsX8_insertWeight (wsV RX8 49 RX8 yX8_saveState wsX8_saveState) := goodIn_app (goodIn_of _ (by decide +kernel)) ggX8_insertWeight_X8_saveState
theorem dX8_insertWeight_0 : decode cX8_insertWeight 0 = .ok (.aload_n 0, 1) := by decide +kernel
theorem dX8_insertWeight_1 : decode cX8_insertWeight 1 = .ok (.iload_n 1, 1) := by decide +kernel
theorem dX8_insertWeight_2 : decode cX8_insertWeight 2 = .ok (.iconst 0, 1) := by decide +kernel
theorem dX8_insertWeight_3 : decode cX8_insertWeight 3 = .ok (.aload_n 0, 1) := by decide +kernel
theorem dX8_insertWeight_4 : decode cX8_insertWeight 4 = .ok (.getfield 7, 3) := by decide +kernel
theorem dX8_insertWeight_7 : decode cX8_insertWeight 7 = .ok (.iconst 5, 1) := by decide +kernel
theorem dX8_insertWeight_8 : decode cX8_insertWeight 8 = .ok (.iaload, 1) := by decide +kernel
theorem dX8_insertWeight_9 : decode cX8_insertWeight 9 = .ok (.invokestatic 33, 3) := by decide +kernel
theorem dX8_insertWeight_12 : decode cX8_insertWeight 12 = .ok (.ifCond .ne 7, 3) := by decide +kernel
theorem dX8_insertWeight_15 : decode cX8_insertWeight 15 = .ok (.iconst 1, 1) := by decide +kernel
theorem dX8_insertWeight_16 : decode cX8_insertWeight 16 = .ok (.goto 34, 3) := by decide +kernel
theorem dX8_insertWeight_19 : decode cX8_insertWeight 19 = .ok (.iload_n 2, 1) := by decide +kernel
theorem dX8_insertWeight_20 : decode cX8_insertWeight 20 = .ok (.iconst 1, 1) := by decide +kernel
theorem dX8_insertWeight_21 : decode cX8_insertWeight 21 = .ok (.sipush 2048, 3) := by decide +kernel
theorem dX8_insertWeight_24 : decode cX8_insertWeight 24 = .ok (.invokestatic 33, 3) := by decide +kernel
theorem dX8_insertWeight_27 : decode cX8_insertWeight 27 = .ok (.ifCond .ne 7, 3) := by decide +kernel
theorem dX8_insertWeight_30 : decode cX8_insertWeight 30 = .ok (.iconst 2, 1) := by decide +kernel
theorem dX8_insertWeight_31 : decode cX8_insertWeight 31 = .ok (.goto 19, 3) := by decide +kernel
theorem dX8_insertWeight_34 : decode cX8_insertWeight 34 = .ok (.aload_n 0, 1) := by decide +kernel
theorem dX8_insertWeight_35 : decode cX8_insertWeight 35 = .ok (.getfield 7, 3) := by decide +kernel
theorem dX8_insertWeight_38 : decode cX8_insertWeight 38 = .ok (.iconst 5, 1) := by decide +kernel
theorem dX8_insertWeight_39 : decode cX8_insertWeight 39 = .ok (.iaload, 1) := by decide +kernel
theorem dX8_insertWeight_40 : decode cX8_insertWeight 40 = .ok (.bipush 12, 2) := by decide +kernel
theorem dX8_insertWeight_42 : decode cX8_insertWeight 42 = .ok (.if_icmp .ne 7, 3) := by decide +kernel
theorem dX8_insertWeight_45 : decode cX8_insertWeight 45 = .ok (.iconst 3, 1) := by decide +kernel
theorem dX8_insertWeight_46 : decode cX8_insertWeight 46 = .ok (.goto 4, 3) := by decide +kernel
theorem dX8_insertWeight_49 : decode cX8_insertWeight 49 = .ok (.iconst 0, 1) := by decide +kernel
theorem dX8_insertWeight_50 : decode cX8_insertWeight 50 = .ok (.invokevirtual 44, 3) := by decide +kernel
theorem dX8_insertWeight_53 : decode cX8_insertWeight 53 = .ok (.ifCond .eq 5, 3) := by decide +kernel
theorem dX8_insertWeight_56 : decode cX8_insertWeight 56 = .ok (.iconst 0, 1) := by decide +kernel
theorem dX8_insertWeight_57 : decode cX8_insertWeight 57 = .ok (.ireturn, 1) := by decide +kernel
theorem dX8_insertWeight_58 : decode cX8_insertWeight 58 = .ok (.aload_n 0, 1) := by decide +kernel
theorem dX8_insertWeight_59 : decode cX8_insertWeight 59 = .ok (.invokevirtual 49, 3) := by decide +kernel
theorem dX8_insertWeight_62 : decode cX8_insertWeight 62 = .ok (.aload_n 0, 1) := by decide +kernel
theorem dX8_insertWeight_63 : decode cX8_insertWeight 63 = .ok (.getfield 7, 3) := by decide +kernel
theorem dX8_insertWeight_66 : decode cX8_insertWeight 66 = .ok (.iconst 5, 1) := by decide +kernel
theorem dX8_insertWeight_67 : decode cX8_insertWeight 67 = .ok (.iaload, 1) := by decide +kernel
theorem dX8_insertWeight_68 : decode cX8_insertWeight 68 = .ok (.istore_n 3, 1) := by decide +kernel
theorem dX8_insertWeight_69 : decode cX8_insertWeight 69 = .ok (.iload_n 3, 1) := by decide +kernel
theorem dX8_insertWeight_70 : decode cX8_insertWeight 70 = .ok (.iload_n 1, 1) := by decide +kernel
theorem dX8_insertWeight_71 : decode cX8_insertWeight 71 = .ok (.if_icmp .le 29, 3) := by decide +kernel
theorem dX8_insertWeight_74 : decode cX8_insertWeight 74 = .ok (.aload_n 0, 1) := by decide +kernel
theorem dX8_insertWeight_75 : decode cX8_insertWeight 75 = .ok (.getfield 7, 3) := by decide +kernel
theorem dX8_insertWeight_78 : decode cX8_insertWeight 78 = .ok (.bipush 7, 2) := by decide +kernel
theorem dX8_insertWeight_80 : decode cX8_insertWeight 80 = .ok (.iload_n 3, 1) := by decide +kernel
theorem dX8_insertWeight_81 : decode cX8_insertWeight 81 = .ok (.iadd, 1) := by decide +kernel
theorem dX8_insertWeight_82 : decode cX8_insertWeight 82 = .ok (.aload_n 0, 1) := by decide +kernel
theorem dX8_insertWeight_83 : decode cX8_insertWeight 83 = .ok (.getfield 7, 3) := by decide +kernel
theorem dX8_insertWeight_86 : decode cX8_insertWeight 86 = .ok (.bipush 7, 2) := by decide +kernel
theorem dX8_insertWeight_88 : decode cX8_insertWeight 88 = .ok (.iload_n 3, 1) := by decide +kernel
theorem dX8_insertWeight_89 : decode cX8_insertWeight 89 = .ok (.iadd, 1) := by decide +kernel
theorem dX8_insertWeight_90 : decode cX8_insertWeight 90 = .ok (.iconst 1, 1) := by decide +kernel
theorem dX8_insertWeight_91 : decode cX8_insertWeight 91 = .ok (.isub, 1) := by decide +kernel
theorem dX8_insertWeight_92 : decode cX8_insertWeight 92 = .ok (.iaload, 1) := by decide +kernel
theorem dX8_insertWeight_93 : decode cX8_insertWeight 93 = .ok (.iastore, 1) := by decide +kernel
theorem dX8_insertWeight_94 : decode cX8_insertWeight 94 = .ok (.iinc 3 (-1), 3) := by decide +kernel
theorem dX8_insertWeight_97 : decode cX8_insertWeight 97 = .ok (.goto (-28), 3) := by decide +kernel
theorem dX8_insertWeight_100 : decode cX8_insertWeight 100 = .ok (.aload_n 0, 1) := by decide +kernel
theorem dX8_insertWeight_101 : decode cX8_insertWeight 101 = .ok (.getfield 7, 3) := by decide +kernel
theorem dX8_insertWeight_104 : decode cX8_insertWeight 104 = .ok (.bipush 7, 2) := by decide +kernel
theorem dX8_insertWeight_106 : decode cX8_insertWeight 106 = .ok (.iload_n 1, 1) := by decide +kernel
theorem dX8_insertWeight_107 : decode cX8_insertWeight 107 = .ok (.iadd, 1) := by decide +kernel
theorem dX8_insertWeight_108 : decode cX8_insertWeight 108 = .ok (.iload_n 2, 1) := by decide +kernel
theorem dX8_insertWeight_109 : decode cX8_insertWeight 109 = .ok (.iastore, 1) := by decide +kernel
theorem dX8_insertWeight_110 : decode cX8_insertWeight 110 = .ok (.aload_n 0, 1) := by decide +kernel
theorem dX8_insertWeight_111 : decode cX8_insertWeight 111 = .ok (.getfield 7, 3) := by decide +kernel
theorem dX8_insertWeight_114 : decode cX8_insertWeight 114 = .ok (.iconst 5, 1) := by decide +kernel
theorem dX8_insertWeight_115 : decode cX8_insertWeight 115 = .ok (.dup2, 1) := by decide +kernel
theorem dX8_insertWeight_116 : decode cX8_insertWeight 116 = .ok (.iaload, 1) := by decide +kernel
theorem dX8_insertWeight_117 : decode cX8_insertWeight 117 = .ok (.iconst 1, 1) := by decide +kernel
theorem dX8_insertWeight_118 : decode cX8_insertWeight 118 = .ok (.iadd, 1) := by decide +kernel
theorem dX8_insertWeight_119 : decode cX8_insertWeight 119 = .ok (.iastore, 1) := by decide +kernel
theorem dX8_insertWeight_120 : decode cX8_insertWeight 120 = .ok (.aload_n 0, 1) := by decide +kernel
theorem dX8_insertWeight_121 : decode cX8_insertWeight 121 = .ok (.getfield 7, 3) := by decide +kernel
theorem dX8_insertWeight_124 : decode cX8_insertWeight 124 = .ok (.iconst 5, 1) := by decide +kernel
theorem dX8_insertWeight_125 : decode cX8_insertWeight 125 = .ok (.iaload, 1) := by decide +kernel
theorem dX8_insertWeight_126 : decode cX8_insertWeight 126 = .ok (.ireturn, 1) := by decide +kernel
set_option maxRecDepth 20000 in
theorem ggX8_removeWeight_X8_isWeight : GoodIn wsX8_removeWeight wsX8_isWeight := goodIn_r _ [6, 1, 7, 8, 5, 9, 24, 25, 26, 27, 28, 29, 30, 31, 32, 33, 34, 35, 36] (by decide +kernel) (by decide +kernel)
set_option maxRecDepth 20000 in
theorem gX8_removeWeight_X8_isWeight : GoodIn wsX8_removeWeight (wsV RX8 62 RX8 yX8_isWeight wsX8_isWeight) := goodIn_app (goodIn_of _ (by decide +kernel)) ggX8_removeWeight_X8_isWeight
set_option maxRecDepth 20000 in
theorem ggX8_removeWeight_X8_refused : GoodIn wsX8_removeWeight wsX8_refused := goodIn_r _ [13, 14, 24, 25, 26, 27, 28, 29, 30, 31, 32, 33, 34, 35, 36] (by decide +kernel) (by decide +kernel)
set_option maxRecDepth 20000 in
theorem gX8_removeWeight_X8_refused : GoodIn wsX8_removeWeight (wsV RX8 44 RX8 yX8_refused wsX8_refused) := goodIn_app (goodIn_of _ (by decide +kernel)) ggX8_removeWeight_X8_refused
set_option maxRecDepth 20000 in
theorem ggX8_removeWeight_X8_saveState : GoodIn wsX8_removeWeight wsX8_saveState := goodIn_r _ [18, 19, 20, 1, 21, 22, 5, 23, 24, 25, 26, 27, 28, 29, 30, 31, 32, 33, 34, 35, 36] (by decide +kernel) (by decide +kernel)
set_option maxRecDepth 20000 in
theorem gX8_removeWeight_X8_saveState : GoodIn wsX8_removeWeight (wsV RX8 49 RX8 yX8_saveState wsX8_saveState) := goodIn_app (goodIn_of _ (by decide +kernel)) ggX8_removeWeight_X8_saveState
theorem dX8_removeWeight_0 : decode cX8_removeWeight 0 = .ok (.aload_n 0, 1) := by decide +kernel
theorem dX8_removeWeight_1 : decode cX8_removeWeight 1 = .ok (.aload_n 0, 1) := by decide +kernel
theorem dX8_removeWeight_2 : decode cX8_removeWeight 2 = .ok (.iload_n 1, 1) := by decide +kernel
theorem dX8_removeWeight_3 : decode cX8_removeWeight 3 = .ok (.invokevirtual 62, 3) := by decide +kernel
theorem dX8_removeWeight_6 : decode cX8_removeWeight 6 = .ok (.ifCond .ne 7, 3) := by decide +kernel
theorem dX8_removeWeight_9 : decode cX8_removeWeight 9 = .ok (.iconst 1, 1) := by decide +kernel
theorem dX8_removeWeight_10 : decode cX8_removeWeight 10 = .ok (.goto 18, 3) := by decide +kernel
theorem dX8_removeWeight_13 : decode cX8_removeWeight 13 = .ok (.aload_n 0, 1) := by decide +kernel
theorem dX8_removeWeight_14 : decode cX8_removeWeight 14 = .ok (.getfield 7, 3) := by decide +kernel
theorem dX8_removeWeight_17 : decode cX8_removeWeight 17 = .ok (.iconst 5, 1) := by decide +kernel
theorem dX8_removeWeight_18 : decode cX8_removeWeight 18 = .ok (.iaload, 1) := by decide +kernel
theorem dX8_removeWeight_19 : decode cX8_removeWeight 19 = .ok (.iconst 1, 1) := by decide +kernel
theorem dX8_removeWeight_20 : decode cX8_removeWeight 20 = .ok (.if_icmp .ne 7, 3) := by decide +kernel
theorem dX8_removeWeight_23 : decode cX8_removeWeight 23 = .ok (.iconst 2, 1) := by decide +kernel
theorem dX8_removeWeight_24 : decode cX8_removeWeight 24 = .ok (.goto 4, 3) := by decide +kernel
theorem dX8_removeWeight_27 : decode cX8_removeWeight 27 = .ok (.iconst 0, 1) := by decide +kernel
theorem dX8_removeWeight_28 : decode cX8_removeWeight 28 = .ok (.invokevirtual 44, 3) := by decide +kernel
theorem dX8_removeWeight_31 : decode cX8_removeWeight 31 = .ok (.ifCond .eq 5, 3) := by decide +kernel
theorem dX8_removeWeight_34 : decode cX8_removeWeight 34 = .ok (.iconst 0, 1) := by decide +kernel
theorem dX8_removeWeight_35 : decode cX8_removeWeight 35 = .ok (.ireturn, 1) := by decide +kernel
theorem dX8_removeWeight_36 : decode cX8_removeWeight 36 = .ok (.aload_n 0, 1) := by decide +kernel
theorem dX8_removeWeight_37 : decode cX8_removeWeight 37 = .ok (.invokevirtual 49, 3) := by decide +kernel
theorem dX8_removeWeight_40 : decode cX8_removeWeight 40 = .ok (.aload_n 0, 1) := by decide +kernel
theorem dX8_removeWeight_41 : decode cX8_removeWeight 41 = .ok (.getfield 7, 3) := by decide +kernel
theorem dX8_removeWeight_44 : decode cX8_removeWeight 44 = .ok (.bipush 7, 2) := by decide +kernel
theorem dX8_removeWeight_46 : decode cX8_removeWeight 46 = .ok (.iload_n 1, 1) := by decide +kernel
theorem dX8_removeWeight_47 : decode cX8_removeWeight 47 = .ok (.iadd, 1) := by decide +kernel
theorem dX8_removeWeight_48 : decode cX8_removeWeight 48 = .ok (.iaload, 1) := by decide +kernel
theorem dX8_removeWeight_49 : decode cX8_removeWeight 49 = .ok (.istore_n 2, 1) := by decide +kernel
theorem dX8_removeWeight_50 : decode cX8_removeWeight 50 = .ok (.aload_n 0, 1) := by decide +kernel
theorem dX8_removeWeight_51 : decode cX8_removeWeight 51 = .ok (.getfield 7, 3) := by decide +kernel
theorem dX8_removeWeight_54 : decode cX8_removeWeight 54 = .ok (.iconst 5, 1) := by decide +kernel
theorem dX8_removeWeight_55 : decode cX8_removeWeight 55 = .ok (.dup2, 1) := by decide +kernel
theorem dX8_removeWeight_56 : decode cX8_removeWeight 56 = .ok (.iaload, 1) := by decide +kernel
theorem dX8_removeWeight_57 : decode cX8_removeWeight 57 = .ok (.iconst 1, 1) := by decide +kernel
theorem dX8_removeWeight_58 : decode cX8_removeWeight 58 = .ok (.isub, 1) := by decide +kernel
theorem dX8_removeWeight_59 : decode cX8_removeWeight 59 = .ok (.iastore, 1) := by decide +kernel
theorem dX8_removeWeight_60 : decode cX8_removeWeight 60 = .ok (.iload_n 1, 1) := by decide +kernel
theorem dX8_removeWeight_61 : decode cX8_removeWeight 61 = .ok (.istore_n 3, 1) := by decide +kernel
theorem dX8_removeWeight_62 : decode cX8_removeWeight 62 = .ok (.iload_n 3, 1) := by decide +kernel
theorem dX8_removeWeight_63 : decode cX8_removeWeight 63 = .ok (.aload_n 0, 1) := by decide +kernel
theorem dX8_removeWeight_64 : decode cX8_removeWeight 64 = .ok (.getfield 7, 3) := by decide +kernel
theorem dX8_removeWeight_67 : decode cX8_removeWeight 67 = .ok (.iconst 5, 1) := by decide +kernel
theorem dX8_removeWeight_68 : decode cX8_removeWeight 68 = .ok (.iaload, 1) := by decide +kernel
theorem dX8_removeWeight_69 : decode cX8_removeWeight 69 = .ok (.if_icmp .ge 29, 3) := by decide +kernel
theorem dX8_removeWeight_72 : decode cX8_removeWeight 72 = .ok (.aload_n 0, 1) := by decide +kernel
theorem dX8_removeWeight_73 : decode cX8_removeWeight 73 = .ok (.getfield 7, 3) := by decide +kernel
theorem dX8_removeWeight_76 : decode cX8_removeWeight 76 = .ok (.bipush 7, 2) := by decide +kernel
theorem dX8_removeWeight_78 : decode cX8_removeWeight 78 = .ok (.iload_n 3, 1) := by decide +kernel
theorem dX8_removeWeight_79 : decode cX8_removeWeight 79 = .ok (.iadd, 1) := by decide +kernel
theorem dX8_removeWeight_80 : decode cX8_removeWeight 80 = .ok (.aload_n 0, 1) := by decide +kernel
theorem dX8_removeWeight_81 : decode cX8_removeWeight 81 = .ok (.getfield 7, 3) := by decide +kernel
theorem dX8_removeWeight_84 : decode cX8_removeWeight 84 = .ok (.bipush 7, 2) := by decide +kernel
theorem dX8_removeWeight_86 : decode cX8_removeWeight 86 = .ok (.iload_n 3, 1) := by decide +kernel
theorem dX8_removeWeight_87 : decode cX8_removeWeight 87 = .ok (.iadd, 1) := by decide +kernel
theorem dX8_removeWeight_88 : decode cX8_removeWeight 88 = .ok (.iconst 1, 1) := by decide +kernel
theorem dX8_removeWeight_89 : decode cX8_removeWeight 89 = .ok (.iadd, 1) := by decide +kernel
theorem dX8_removeWeight_90 : decode cX8_removeWeight 90 = .ok (.iaload, 1) := by decide +kernel
theorem dX8_removeWeight_91 : decode cX8_removeWeight 91 = .ok (.iastore, 1) := by decide +kernel
theorem dX8_removeWeight_92 : decode cX8_removeWeight 92 = .ok (.iinc 3 1, 3) := by decide +kernel
theorem dX8_removeWeight_95 : decode cX8_removeWeight 95 = .ok (.goto (-33), 3) := by decide +kernel
theorem dX8_removeWeight_98 : decode cX8_removeWeight 98 = .ok (.aload_n 0, 1) := by decide +kernel
theorem dX8_removeWeight_99 : decode cX8_removeWeight 99 = .ok (.getfield 7, 3) := by decide +kernel
theorem dX8_removeWeight_102 : decode cX8_removeWeight 102 = .ok (.bipush 7, 2) := by decide +kernel
theorem dX8_removeWeight_104 : decode cX8_removeWeight 104 = .ok (.aload_n 0, 1) := by decide +kernel
theorem dX8_removeWeight_105 : decode cX8_removeWeight 105 = .ok (.getfield 7, 3) := by decide +kernel
theorem dX8_removeWeight_108 : decode cX8_removeWeight 108 = .ok (.iconst 5, 1) := by decide +kernel
theorem dX8_removeWeight_109 : decode cX8_removeWeight 109 = .ok (.iaload, 1) := by decide +kernel
theorem dX8_removeWeight_110 : decode cX8_removeWeight 110 = .ok (.iadd, 1) := by decide +kernel
theorem dX8_removeWeight_111 : decode cX8_removeWeight 111 = .ok (.iconst 0, 1) := by decide +kernel
theorem dX8_removeWeight_112 : decode cX8_removeWeight 112 = .ok (.iastore, 1) := by decide +kernel
theorem dX8_removeWeight_113 : decode cX8_removeWeight 113 = .ok (.iload_n 2, 1) := by decide +kernel
theorem dX8_removeWeight_114 : decode cX8_removeWeight 114 = .ok (.ireturn, 1) := by decide +kernel
theorem dX8_ahead_0 : decode cX8_ahead 0 = .ok (.iconst 0, 1) := by decide +kernel
theorem dX8_ahead_1 : decode cX8_ahead 1 = .ok (.istore_n 2, 1) := by decide +kernel
theorem dX8_ahead_2 : decode cX8_ahead 2 = .ok (.iconst 0, 1) := by decide +kernel
theorem dX8_ahead_3 : decode cX8_ahead 3 = .ok (.istore_n 3, 1) := by decide +kernel
theorem dX8_ahead_4 : decode cX8_ahead 4 = .ok (.iload_n 3, 1) := by decide +kernel
theorem dX8_ahead_5 : decode cX8_ahead 5 = .ok (.aload_n 0, 1) := by decide +kernel
theorem dX8_ahead_6 : decode cX8_ahead 6 = .ok (.getfield 7, 3) := by decide +kernel
theorem dX8_ahead_9 : decode cX8_ahead 9 = .ok (.iconst 5, 1) := by decide +kernel
theorem dX8_ahead_10 : decode cX8_ahead 10 = .ok (.iaload, 1) := by decide +kernel
theorem dX8_ahead_11 : decode cX8_ahead 11 = .ok (.if_icmp .ge 64, 3) := by decide +kernel
theorem dX8_ahead_14 : decode cX8_ahead 14 = .ok (.iload_n 2, 1) := by decide +kernel
theorem dX8_ahead_15 : decode cX8_ahead 15 = .ok (.aload_n 0, 1) := by decide +kernel
theorem dX8_ahead_16 : decode cX8_ahead 16 = .ok (.getfield 7, 3) := by decide +kernel
theorem dX8_ahead_19 : decode cX8_ahead 19 = .ok (.bipush 7, 2) := by decide +kernel
theorem dX8_ahead_21 : decode cX8_ahead 21 = .ok (.iload_n 3, 1) := by decide +kernel
theorem dX8_ahead_22 : decode cX8_ahead 22 = .ok (.iadd, 1) := by decide +kernel
theorem dX8_ahead_23 : decode cX8_ahead 23 = .ok (.iaload, 1) := by decide +kernel
theorem dX8_ahead_24 : decode cX8_ahead 24 = .ok (.aload_n 0, 1) := by decide +kernel
theorem dX8_ahead_25 : decode cX8_ahead 25 = .ok (.getfield 7, 3) := by decide +kernel
theorem dX8_ahead_28 : decode cX8_ahead 28 = .ok (.bipush 7, 2) := by decide +kernel
theorem dX8_ahead_30 : decode cX8_ahead 30 = .ok (.iload_n 1, 1) := by decide +kernel
theorem dX8_ahead_31 : decode cX8_ahead 31 = .ok (.iadd, 1) := by decide +kernel
theorem dX8_ahead_32 : decode cX8_ahead 32 = .ok (.iaload, 1) := by decide +kernel
theorem dX8_ahead_33 : decode cX8_ahead 33 = .ok (.if_icmp .gt 29, 3) := by decide +kernel
theorem dX8_ahead_36 : decode cX8_ahead 36 = .ok (.aload_n 0, 1) := by decide +kernel
theorem dX8_ahead_37 : decode cX8_ahead 37 = .ok (.getfield 7, 3) := by decide +kernel
theorem dX8_ahead_40 : decode cX8_ahead 40 = .ok (.bipush 7, 2) := by decide +kernel
theorem dX8_ahead_42 : decode cX8_ahead 42 = .ok (.iload_n 3, 1) := by decide +kernel
theorem dX8_ahead_43 : decode cX8_ahead 43 = .ok (.iadd, 1) := by decide +kernel
theorem dX8_ahead_44 : decode cX8_ahead 44 = .ok (.iaload, 1) := by decide +kernel
theorem dX8_ahead_45 : decode cX8_ahead 45 = .ok (.aload_n 0, 1) := by decide +kernel
theorem dX8_ahead_46 : decode cX8_ahead 46 = .ok (.getfield 7, 3) := by decide +kernel
theorem dX8_ahead_49 : decode cX8_ahead 49 = .ok (.bipush 7, 2) := by decide +kernel
theorem dX8_ahead_51 : decode cX8_ahead 51 = .ok (.iload_n 1, 1) := by decide +kernel
theorem dX8_ahead_52 : decode cX8_ahead 52 = .ok (.iadd, 1) := by decide +kernel
theorem dX8_ahead_53 : decode cX8_ahead 53 = .ok (.iaload, 1) := by decide +kernel
theorem dX8_ahead_54 : decode cX8_ahead 54 = .ok (.if_icmp .ne 12, 3) := by decide +kernel
theorem dX8_ahead_57 : decode cX8_ahead 57 = .ok (.iload_n 3, 1) := by decide +kernel
theorem dX8_ahead_58 : decode cX8_ahead 58 = .ok (.iload_n 1, 1) := by decide +kernel
theorem dX8_ahead_59 : decode cX8_ahead 59 = .ok (.if_icmp .ge 7, 3) := by decide +kernel
theorem dX8_ahead_62 : decode cX8_ahead 62 = .ok (.iconst 1, 1) := by decide +kernel
theorem dX8_ahead_63 : decode cX8_ahead 63 = .ok (.goto 4, 3) := by decide +kernel
theorem dX8_ahead_66 : decode cX8_ahead 66 = .ok (.iconst 0, 1) := by decide +kernel
theorem dX8_ahead_67 : decode cX8_ahead 67 = .ok (.iadd, 1) := by decide +kernel
theorem dX8_ahead_68 : decode cX8_ahead 68 = .ok (.istore_n 2, 1) := by decide +kernel
theorem dX8_ahead_69 : decode cX8_ahead 69 = .ok (.iinc 3 1, 3) := by decide +kernel
theorem dX8_ahead_72 : decode cX8_ahead 72 = .ok (.goto (-68), 3) := by decide +kernel
theorem dX8_ahead_75 : decode cX8_ahead 75 = .ok (.iload_n 2, 1) := by decide +kernel
theorem dX8_ahead_76 : decode cX8_ahead 76 = .ok (.ireturn, 1) := by decide +kernel
set_option maxRecDepth 20000 in
theorem ggX8_sortWeights_X8_saveState : GoodIn wsX8_sortWeights wsX8_saveState := goodIn_r _ [8, 9, 10, 2, 11, 12, 7, 13, 18, 19, 20, 21, 22, 23, 24, 25, 26, 27, 28, 29, 30] (by decide +kernel) (by decide +kernel)
set_option maxRecDepth 20000 in
theorem gX8_sortWeights_X8_saveState : GoodIn wsX8_sortWeights (wsV RX8 49 RX8 yX8_saveState wsX8_saveState) := goodIn_app (goodIn_of _ (by decide +kernel)) ggX8_sortWeights_X8_saveState
set_option maxRecDepth 20000 in
theorem ggX8_sortWeights_X8_ahead : GoodIn wsX8_sortWeights wsX8_ahead := goodIn_r _ [17, 2, 18, 19, 20, 21, 22, 23, 24, 25, 26, 27, 28, 29, 30] (by decide +kernel) (by decide +kernel)
set_option maxRecDepth 20000 in
theorem gX8_sortWeights_X8_ahead : GoodIn wsX8_sortWeights (wsV RX8 65 RX8 yX8_ahead wsX8_ahead) := goodIn_app (goodIn_of _ (by decide +kernel)) ggX8_sortWeights_X8_ahead
theorem dX8_sortWeights_0 : decode cX8_sortWeights 0 = .ok (.aload_n 0, 1) := by decide +kernel
theorem dX8_sortWeights_1 : decode cX8_sortWeights 1 = .ok (.iconst 0, 1) := by decide +kernel
theorem dX8_sortWeights_2 : decode cX8_sortWeights 2 = .ok (.putfield 29, 3) := by decide +kernel
theorem dX8_sortWeights_5 : decode cX8_sortWeights 5 = .ok (.aload_n 0, 1) := by decide +kernel
theorem dX8_sortWeights_6 : decode cX8_sortWeights 6 = .ok (.invokevirtual 49, 3) := by decide +kernel
theorem dX8_sortWeights_9 : decode cX8_sortWeights 9 = .ok (.iconst 0, 1) := by decide +kernel
theorem dX8_sortWeights_10 : decode cX8_sortWeights 10 = .ok (.istore_n 1, 1) := by decide +kernel
theorem dX8_sortWeights_11 : decode cX8_sortWeights 11 = .ok (.iconst 0, 1) := by decide +kernel
theorem dX8_sortWeights_12 : decode cX8_sortWeights 12 = .ok (.istore_n 2, 1) := by decide +kernel
theorem dX8_sortWeights_13 : decode cX8_sortWeights 13 = .ok (.iload_n 2, 1) := by decide +kernel
theorem dX8_sortWeights_14 : decode cX8_sortWeights 14 = .ok (.aload_n 0, 1) := by decide +kernel
theorem dX8_sortWeights_15 : decode cX8_sortWeights 15 = .ok (.getfield 7, 3) := by decide +kernel
theorem dX8_sortWeights_18 : decode cX8_sortWeights 18 = .ok (.iconst 5, 1) := by decide +kernel
theorem dX8_sortWeights_19 : decode cX8_sortWeights 19 = .ok (.iaload, 1) := by decide +kernel
theorem dX8_sortWeights_20 : decode cX8_sortWeights 20 = .ok (.if_icmp .ge 45, 3) := by decide +kernel
theorem dX8_sortWeights_23 : decode cX8_sortWeights 23 = .ok (.aload_n 0, 1) := by decide +kernel
theorem dX8_sortWeights_24 : decode cX8_sortWeights 24 = .ok (.getfield 19, 3) := by decide +kernel
theorem dX8_sortWeights_27 : decode cX8_sortWeights 27 = .ok (.aload_n 0, 1) := by decide +kernel
theorem dX8_sortWeights_28 : decode cX8_sortWeights 28 = .ok (.iload_n 2, 1) := by decide +kernel
theorem dX8_sortWeights_29 : decode cX8_sortWeights 29 = .ok (.invokevirtual 65, 3) := by decide +kernel
theorem dX8_sortWeights_32 : decode cX8_sortWeights 32 = .ok (.aload_n 0, 1) := by decide +kernel
theorem dX8_sortWeights_33 : decode cX8_sortWeights 33 = .ok (.getfield 7, 3) := by decide +kernel
theorem dX8_sortWeights_36 : decode cX8_sortWeights 36 = .ok (.bipush 7, 2) := by decide +kernel
theorem dX8_sortWeights_38 : decode cX8_sortWeights 38 = .ok (.iload_n 2, 1) := by decide +kernel
theorem dX8_sortWeights_39 : decode cX8_sortWeights 39 = .ok (.iadd, 1) := by decide +kernel
theorem dX8_sortWeights_40 : decode cX8_sortWeights 40 = .ok (.iaload, 1) := by decide +kernel
theorem dX8_sortWeights_41 : decode cX8_sortWeights 41 = .ok (.iastore, 1) := by decide +kernel
theorem dX8_sortWeights_42 : decode cX8_sortWeights 42 = .ok (.iload_n 1, 1) := by decide +kernel
theorem dX8_sortWeights_43 : decode cX8_sortWeights 43 = .ok (.aload_n 0, 1) := by decide +kernel
theorem dX8_sortWeights_44 : decode cX8_sortWeights 44 = .ok (.iload_n 2, 1) := by decide +kernel
theorem dX8_sortWeights_45 : decode cX8_sortWeights 45 = .ok (.invokevirtual 65, 3) := by decide +kernel
theorem dX8_sortWeights_48 : decode cX8_sortWeights 48 = .ok (.iload_n 2, 1) := by decide +kernel
theorem dX8_sortWeights_49 : decode cX8_sortWeights 49 = .ok (.if_icmp .ne 7, 3) := by decide +kernel
theorem dX8_sortWeights_52 : decode cX8_sortWeights 52 = .ok (.iconst 0, 1) := by decide +kernel
theorem dX8_sortWeights_53 : decode cX8_sortWeights 53 = .ok (.goto 4, 3) := by decide +kernel
theorem dX8_sortWeights_56 : decode cX8_sortWeights 56 = .ok (.iconst 1, 1) := by decide +kernel
theorem dX8_sortWeights_57 : decode cX8_sortWeights 57 = .ok (.iadd, 1) := by decide +kernel
theorem dX8_sortWeights_58 : decode cX8_sortWeights 58 = .ok (.istore_n 1, 1) := by decide +kernel
theorem dX8_sortWeights_59 : decode cX8_sortWeights 59 = .ok (.iinc 2 1, 3) := by decide +kernel
theorem dX8_sortWeights_62 : decode cX8_sortWeights 62 = .ok (.goto (-49), 3) := by decide +kernel
theorem dX8_sortWeights_65 : decode cX8_sortWeights 65 = .ok (.iconst 0, 1) := by decide +kernel
theorem dX8_sortWeights_66 : decode cX8_sortWeights 66 = .ok (.istore_n 2, 1) := by decide +kernel
theorem dX8_sortWeights_67 : decode cX8_sortWeights 67 = .ok (.iload_n 2, 1) := by decide +kernel
theorem dX8_sortWeights_68 : decode cX8_sortWeights 68 = .ok (.aload_n 0, 1) := by decide +kernel
theorem dX8_sortWeights_69 : decode cX8_sortWeights 69 = .ok (.getfield 7, 3) := by decide +kernel
theorem dX8_sortWeights_72 : decode cX8_sortWeights 72 = .ok (.iconst 5, 1) := by decide +kernel
theorem dX8_sortWeights_73 : decode cX8_sortWeights 73 = .ok (.iaload, 1) := by decide +kernel
theorem dX8_sortWeights_74 : decode cX8_sortWeights 74 = .ok (.if_icmp .ge 24, 3) := by decide +kernel
theorem dX8_sortWeights_77 : decode cX8_sortWeights 77 = .ok (.aload_n 0, 1) := by decide +kernel
theorem dX8_sortWeights_78 : decode cX8_sortWeights 78 = .ok (.getfield 7, 3) := by decide +kernel
theorem dX8_sortWeights_81 : decode cX8_sortWeights 81 = .ok (.bipush 7, 2) := by decide +kernel
theorem dX8_sortWeights_83 : decode cX8_sortWeights 83 = .ok (.iload_n 2, 1) := by decide +kernel
theorem dX8_sortWeights_84 : decode cX8_sortWeights 84 = .ok (.iadd, 1) := by decide +kernel
theorem dX8_sortWeights_85 : decode cX8_sortWeights 85 = .ok (.aload_n 0, 1) := by decide +kernel
theorem dX8_sortWeights_86 : decode cX8_sortWeights 86 = .ok (.getfield 19, 3) := by decide +kernel
theorem dX8_sortWeights_89 : decode cX8_sortWeights 89 = .ok (.iload_n 2, 1) := by decide +kernel
theorem dX8_sortWeights_90 : decode cX8_sortWeights 90 = .ok (.iaload, 1) := by decide +kernel
theorem dX8_sortWeights_91 : decode cX8_sortWeights 91 = .ok (.iastore, 1) := by decide +kernel
theorem dX8_sortWeights_92 : decode cX8_sortWeights 92 = .ok (.iinc 2 1, 3) := by decide +kernel
theorem dX8_sortWeights_95 : decode cX8_sortWeights 95 = .ok (.goto (-28), 3) := by decide +kernel
theorem dX8_sortWeights_98 : decode cX8_sortWeights 98 = .ok (.iload_n 1, 1) := by decide +kernel
theorem dX8_sortWeights_99 : decode cX8_sortWeights 99 = .ok (.ireturn, 1) := by decide +kernel
theorem dX8_weights_0 : decode cX8_weights 0 = .ok (.aload_n 0, 1) := by decide +kernel
theorem dX8_weights_1 : decode cX8_weights 1 = .ok (.iconst 0, 1) := by decide +kernel
theorem dX8_weights_2 : decode cX8_weights 2 = .ok (.putfield 29, 3) := by decide +kernel
theorem dX8_weights_5 : decode cX8_weights 5 = .ok (.aload_n 0, 1) := by decide +kernel
theorem dX8_weights_6 : decode cX8_weights 6 = .ok (.getfield 7, 3) := by decide +kernel
theorem dX8_weights_9 : decode cX8_weights 9 = .ok (.iconst 5, 1) := by decide +kernel
theorem dX8_weights_10 : decode cX8_weights 10 = .ok (.iaload, 1) := by decide +kernel
theorem dX8_weights_11 : decode cX8_weights 11 = .ok (.ireturn, 1) := by decide +kernel
set_option maxRecDepth 20000 in
theorem ggX8_weight_X8_isWeight : GoodIn wsX8_weight wsX8_isWeight := goodIn_r _ [6, 1, 7, 8, 5, 9, 15, 16, 17, 18, 19, 20, 21, 22, 23, 24, 25, 26, 27] (by decide +kernel) (by decide +kernel)
set_option maxRecDepth 20000 in
theorem gX8_weight_X8_isWeight : GoodIn wsX8_weight (wsV RX8 62 RX8 yX8_isWeight wsX8_isWeight) := goodIn_app (goodIn_of _ (by decide +kernel)) ggX8_weight_X8_isWeight
set_option maxRecDepth 20000 in
theorem ggX8_weight_X8_refused : GoodIn wsX8_weight wsX8_refused := goodIn_r _ [13, 14, 15, 16, 17, 18, 19, 20, 21, 22, 23, 24, 25, 26, 27] (by decide +kernel) (by decide +kernel)
set_option maxRecDepth 20000 in
theorem gX8_weight_X8_refused : GoodIn wsX8_weight (wsV RX8 44 RX8 yX8_refused wsX8_refused) := goodIn_app (goodIn_of _ (by decide +kernel)) ggX8_weight_X8_refused
theorem dX8_weight_0 : decode cX8_weight 0 = .ok (.aload_n 0, 1) := by decide +kernel
theorem dX8_weight_1 : decode cX8_weight 1 = .ok (.aload_n 0, 1) := by decide +kernel
theorem dX8_weight_2 : decode cX8_weight 2 = .ok (.iload_n 1, 1) := by decide +kernel
theorem dX8_weight_3 : decode cX8_weight 3 = .ok (.invokevirtual 62, 3) := by decide +kernel
theorem dX8_weight_6 : decode cX8_weight 6 = .ok (.ifCond .eq 7, 3) := by decide +kernel
theorem dX8_weight_9 : decode cX8_weight 9 = .ok (.iconst 0, 1) := by decide +kernel
theorem dX8_weight_10 : decode cX8_weight 10 = .ok (.goto 4, 3) := by decide +kernel
theorem dX8_weight_13 : decode cX8_weight 13 = .ok (.iconst 1, 1) := by decide +kernel
theorem dX8_weight_14 : decode cX8_weight 14 = .ok (.invokevirtual 44, 3) := by decide +kernel
theorem dX8_weight_17 : decode cX8_weight 17 = .ok (.ifCond .eq 7, 3) := by decide +kernel
theorem dX8_weight_20 : decode cX8_weight 20 = .ok (.iconst 0, 1) := by decide +kernel
theorem dX8_weight_21 : decode cX8_weight 21 = .ok (.goto 12, 3) := by decide +kernel
theorem dX8_weight_24 : decode cX8_weight 24 = .ok (.aload_n 0, 1) := by decide +kernel
theorem dX8_weight_25 : decode cX8_weight 25 = .ok (.getfield 7, 3) := by decide +kernel
theorem dX8_weight_28 : decode cX8_weight 28 = .ok (.bipush 7, 2) := by decide +kernel
theorem dX8_weight_30 : decode cX8_weight 30 = .ok (.iload_n 1, 1) := by decide +kernel
theorem dX8_weight_31 : decode cX8_weight 31 = .ok (.iadd, 1) := by decide +kernel
theorem dX8_weight_32 : decode cX8_weight 32 = .ok (.iaload, 1) := by decide +kernel
theorem dX8_weight_33 : decode cX8_weight 33 = .ok (.ireturn, 1) := by decide +kernel
theorem dX8_sum_0 : decode cX8_sum 0 = .ok (.iconst 0, 1) := by decide +kernel
theorem dX8_sum_1 : decode cX8_sum 1 = .ok (.istore_n 1, 1) := by decide +kernel
theorem dX8_sum_2 : decode cX8_sum 2 = .ok (.iconst 0, 1) := by decide +kernel
theorem dX8_sum_3 : decode cX8_sum 3 = .ok (.istore_n 2, 1) := by decide +kernel
theorem dX8_sum_4 : decode cX8_sum 4 = .ok (.iload_n 2, 1) := by decide +kernel
theorem dX8_sum_5 : decode cX8_sum 5 = .ok (.aload_n 0, 1) := by decide +kernel
theorem dX8_sum_6 : decode cX8_sum 6 = .ok (.getfield 7, 3) := by decide +kernel
theorem dX8_sum_9 : decode cX8_sum 9 = .ok (.iconst 5, 1) := by decide +kernel
theorem dX8_sum_10 : decode cX8_sum 10 = .ok (.iaload, 1) := by decide +kernel
theorem dX8_sum_11 : decode cX8_sum 11 = .ok (.if_icmp .ge 21, 3) := by decide +kernel
theorem dX8_sum_14 : decode cX8_sum 14 = .ok (.iload_n 1, 1) := by decide +kernel
theorem dX8_sum_15 : decode cX8_sum 15 = .ok (.aload_n 0, 1) := by decide +kernel
theorem dX8_sum_16 : decode cX8_sum 16 = .ok (.getfield 7, 3) := by decide +kernel
theorem dX8_sum_19 : decode cX8_sum 19 = .ok (.bipush 7, 2) := by decide +kernel
theorem dX8_sum_21 : decode cX8_sum 21 = .ok (.iload_n 2, 1) := by decide +kernel
theorem dX8_sum_22 : decode cX8_sum 22 = .ok (.iadd, 1) := by decide +kernel
theorem dX8_sum_23 : decode cX8_sum 23 = .ok (.iaload, 1) := by decide +kernel
theorem dX8_sum_24 : decode cX8_sum 24 = .ok (.iadd, 1) := by decide +kernel
theorem dX8_sum_25 : decode cX8_sum 25 = .ok (.istore_n 1, 1) := by decide +kernel
theorem dX8_sum_26 : decode cX8_sum 26 = .ok (.iinc 2 1, 3) := by decide +kernel
theorem dX8_sum_29 : decode cX8_sum 29 = .ok (.goto (-25), 3) := by decide +kernel
theorem dX8_sum_32 : decode cX8_sum 32 = .ok (.iload_n 1, 1) := by decide +kernel
theorem dX8_sum_33 : decode cX8_sum 33 = .ok (.ireturn, 1) := by decide +kernel
set_option maxRecDepth 20000 in
theorem ggX8_total_X8_sum : GoodIn wsX8_total wsX8_sum := goodIn_r _ [6, 7, 8, 9, 10, 11, 12, 13, 14, 15, 16, 17, 18, 19, 20] (by decide +kernel) (by decide +kernel)
set_option maxRecDepth 20000 in
theorem gX8_total_X8_sum : GoodIn wsX8_total (wsV RX8 69 RX8 yX8_sum wsX8_sum) := goodIn_app (goodIn_of _ (by decide +kernel)) ggX8_total_X8_sum
theorem dX8_total_0 : decode cX8_total 0 = .ok (.aload_n 0, 1) := by decide +kernel
theorem dX8_total_1 : decode cX8_total 1 = .ok (.iconst 0, 1) := by decide +kernel
theorem dX8_total_2 : decode cX8_total 2 = .ok (.putfield 29, 3) := by decide +kernel
theorem dX8_total_5 : decode cX8_total 5 = .ok (.aload_n 0, 1) := by decide +kernel
theorem dX8_total_6 : decode cX8_total 6 = .ok (.invokevirtual 69, 3) := by decide +kernel
theorem dX8_total_9 : decode cX8_total 9 = .ok (.ireturn, 1) := by decide +kernel
set_option maxRecDepth 20000 in
theorem ggX8_weigh_X8_held : GoodIn wsX8_weigh wsX8_held := goodIn_r _ [7] (by decide +kernel) (by decide +kernel)
set_option maxRecDepth 20000 in
theorem gX8_weigh_X8_held : GoodIn wsX8_weigh (va_wsS RX8 56 yX8_held wsX8_held) := goodIn_app (goodIn_of _ (by decide +kernel)) ggX8_weigh_X8_held
theorem dX8_weigh_0 : decode cX8_weigh 0 = .ok (.iconst 0, 1) := by decide +kernel
theorem dX8_weigh_1 : decode cX8_weigh 1 = .ok (.istore 5, 2) := by decide +kernel
theorem dX8_weigh_3 : decode cX8_weigh 3 = .ok (.aload_n 0, 1) := by decide +kernel
theorem dX8_weigh_4 : decode cX8_weigh 4 = .ok (.iload_n 1, 1) := by decide +kernel
theorem dX8_weigh_5 : decode cX8_weigh 5 = .ok (.putfield 73, 3) := by decide +kernel
theorem dX8_weigh_8 : decode cX8_weigh 8 = .ok (.aload_n 0, 1) := by decide +kernel
theorem dX8_weigh_9 : decode cX8_weigh 9 = .ok (.iconst 0, 1) := by decide +kernel
theorem dX8_weigh_10 : decode cX8_weigh 10 = .ok (.putfield 76, 3) := by decide +kernel
theorem dX8_weigh_13 : decode cX8_weigh 13 = .ok (.iconst 0, 1) := by decide +kernel
theorem dX8_weigh_14 : decode cX8_weigh 14 = .ok (.istore 6, 2) := by decide +kernel
theorem dX8_weigh_16 : decode cX8_weigh 16 = .ok (.iload 6, 2) := by decide +kernel
theorem dX8_weigh_18 : decode cX8_weigh 18 = .ok (.aload_n 0, 1) := by decide +kernel
theorem dX8_weigh_19 : decode cX8_weigh 19 = .ok (.getfield 7, 3) := by decide +kernel
theorem dX8_weigh_22 : decode cX8_weigh 22 = .ok (.iconst 5, 1) := by decide +kernel
theorem dX8_weigh_23 : decode cX8_weigh 23 = .ok (.iaload, 1) := by decide +kernel
theorem dX8_weigh_24 : decode cX8_weigh 24 = .ok (.if_icmp .ge 102, 3) := by decide +kernel
theorem dX8_weigh_27 : decode cX8_weigh 27 = .ok (.aload_n 0, 1) := by decide +kernel
theorem dX8_weigh_28 : decode cX8_weigh 28 = .ok (.aload_n 0, 1) := by decide +kernel
theorem dX8_weigh_29 : decode cX8_weigh 29 = .ok (.getfield 73, 3) := by decide +kernel
theorem dX8_weigh_32 : decode cX8_weigh 32 = .ok (.iload_n 2, 1) := by decide +kernel
theorem dX8_weigh_33 : decode cX8_weigh 33 = .ok (.invokestatic 56, 3) := by decide +kernel
theorem dX8_weigh_36 : decode cX8_weigh 36 = .ok (.putfield 73, 3) := by decide +kernel
theorem dX8_weigh_39 : decode cX8_weigh 39 = .ok (.aload_n 0, 1) := by decide +kernel
theorem dX8_weigh_40 : decode cX8_weigh 40 = .ok (.getfield 73, 3) := by decide +kernel
theorem dX8_weigh_43 : decode cX8_weigh 43 = .ok (.iload_n 3, 1) := by decide +kernel
theorem dX8_weigh_44 : decode cX8_weigh 44 = .ok (.iadd, 1) := by decide +kernel
theorem dX8_weigh_45 : decode cX8_weigh 45 = .ok (.bipush 16, 2) := by decide +kernel
theorem dX8_weigh_47 : decode cX8_weigh 47 = .ok (.iload 5, 2) := by decide +kernel
theorem dX8_weigh_49 : decode cX8_weigh 49 = .ok (.aload_n 0, 1) := by decide +kernel
theorem dX8_weigh_50 : decode cX8_weigh 50 = .ok (.getfield 7, 3) := by decide +kernel
theorem dX8_weigh_53 : decode cX8_weigh 53 = .ok (.bipush 7, 2) := by decide +kernel
theorem dX8_weigh_55 : decode cX8_weigh 55 = .ok (.iload 6, 2) := by decide +kernel
theorem dX8_weigh_57 : decode cX8_weigh 57 = .ok (.iadd, 1) := by decide +kernel
theorem dX8_weigh_58 : decode cX8_weigh 58 = .ok (.iaload, 1) := by decide +kernel
theorem dX8_weigh_59 : decode cX8_weigh 59 = .ok (.iadd, 1) := by decide +kernel
theorem dX8_weigh_60 : decode cX8_weigh 60 = .ok (.imul, 1) := by decide +kernel
theorem dX8_weigh_61 : decode cX8_weigh 61 = .ok (.if_icmp .lt 7, 3) := by decide +kernel
theorem dX8_weigh_64 : decode cX8_weigh 64 = .ok (.iconst 1, 1) := by decide +kernel
theorem dX8_weigh_65 : decode cX8_weigh 65 = .ok (.goto 4, 3) := by decide +kernel
theorem dX8_weigh_68 : decode cX8_weigh 68 = .ok (.iconst 0, 1) := by decide +kernel
theorem dX8_weigh_69 : decode cX8_weigh 69 = .ok (.istore 7, 2) := by decide +kernel
theorem dX8_weigh_71 : decode cX8_weigh 71 = .ok (.iload 7, 2) := by decide +kernel
theorem dX8_weigh_73 : decode cX8_weigh 73 = .ok (.iload 4, 2) := by decide +kernel
theorem dX8_weigh_75 : decode cX8_weigh 75 = .ok (.iload 6, 2) := by decide +kernel
theorem dX8_weigh_77 : decode cX8_weigh 77 = .ok (.ishr, 1) := by decide +kernel
theorem dX8_weigh_78 : decode cX8_weigh 78 = .ok (.iconst 1, 1) := by decide +kernel
theorem dX8_weigh_79 : decode cX8_weigh 79 = .ok (.iand, 1) := by decide +kernel
theorem dX8_weigh_80 : decode cX8_weigh 80 = .ok (.iconst 1, 1) := by decide +kernel
theorem dX8_weigh_81 : decode cX8_weigh 81 = .ok (.if_icmp .ne 7, 3) := by decide +kernel
theorem dX8_weigh_84 : decode cX8_weigh 84 = .ok (.iconst 1, 1) := by decide +kernel
theorem dX8_weigh_85 : decode cX8_weigh 85 = .ok (.goto 4, 3) := by decide +kernel
theorem dX8_weigh_88 : decode cX8_weigh 88 = .ok (.iconst 0, 1) := by decide +kernel
theorem dX8_weigh_89 : decode cX8_weigh 89 = .ok (.if_icmp .eq 31, 3) := by decide +kernel
theorem dX8_weigh_92 : decode cX8_weigh 92 = .ok (.iload 5, 2) := by decide +kernel
theorem dX8_weigh_94 : decode cX8_weigh 94 = .ok (.aload_n 0, 1) := by decide +kernel
theorem dX8_weigh_95 : decode cX8_weigh 95 = .ok (.getfield 7, 3) := by decide +kernel
theorem dX8_weigh_98 : decode cX8_weigh 98 = .ok (.bipush 7, 2) := by decide +kernel
theorem dX8_weigh_100 : decode cX8_weigh 100 = .ok (.iload 6, 2) := by decide +kernel
theorem dX8_weigh_102 : decode cX8_weigh 102 = .ok (.iadd, 1) := by decide +kernel
theorem dX8_weigh_103 : decode cX8_weigh 103 = .ok (.iaload, 1) := by decide +kernel
theorem dX8_weigh_104 : decode cX8_weigh 104 = .ok (.iadd, 1) := by decide +kernel
theorem dX8_weigh_105 : decode cX8_weigh 105 = .ok (.istore 5, 2) := by decide +kernel
theorem dX8_weigh_107 : decode cX8_weigh 107 = .ok (.aload_n 0, 1) := by decide +kernel
theorem dX8_weigh_108 : decode cX8_weigh 108 = .ok (.dup, 1) := by decide +kernel
theorem dX8_weigh_109 : decode cX8_weigh 109 = .ok (.getfield 76, 3) := by decide +kernel
theorem dX8_weigh_112 : decode cX8_weigh 112 = .ok (.iconst 1, 1) := by decide +kernel
theorem dX8_weigh_113 : decode cX8_weigh 113 = .ok (.iload 6, 2) := by decide +kernel
theorem dX8_weigh_115 : decode cX8_weigh 115 = .ok (.ishl, 1) := by decide +kernel
theorem dX8_weigh_116 : decode cX8_weigh 116 = .ok (.ior, 1) := by decide +kernel
theorem dX8_weigh_117 : decode cX8_weigh 117 = .ok (.putfield 76, 3) := by decide +kernel
theorem dX8_weigh_120 : decode cX8_weigh 120 = .ok (.iinc 6 1, 3) := by decide +kernel
theorem dX8_weigh_123 : decode cX8_weigh 123 = .ok (.goto (-107), 3) := by decide +kernel
theorem dX8_weigh_126 : decode cX8_weigh 126 = .ok (.iload 5, 2) := by decide +kernel
theorem dX8_weigh_128 : decode cX8_weigh 128 = .ok (.ireturn, 1) := by decide +kernel
set_option maxRecDepth 20000 in
theorem ggX8_idealOf_X8_weigh : GoodIn wsX8_idealOf wsX8_weigh := goodIn_r _ [5, 6, 7, 8, 9, 10, 4, 11, 12, 13, 14, 15, 16, 17, 18, 19, 20, 21, 22, 23, 24] (by decide +kernel) (by decide +kernel)
set_option maxRecDepth 20000 in
theorem gX8_idealOf_X8_weigh : GoodIn wsX8_idealOf (wsV RX8 79 RX8 yX8_weigh wsX8_weigh) := goodIn_app (goodIn_of _ (by decide +kernel)) ggX8_idealOf_X8_weigh
theorem dX8_idealOf_0 : decode cX8_idealOf 0 = .ok (.aload_n 0, 1) := by decide +kernel
theorem dX8_idealOf_1 : decode cX8_idealOf 1 = .ok (.iload_n 1, 1) := by decide +kernel
theorem dX8_idealOf_2 : decode cX8_idealOf 2 = .ok (.iconst 0, 1) := by decide +kernel
theorem dX8_idealOf_3 : decode cX8_idealOf 3 = .ok (.iconst 0, 1) := by decide +kernel
theorem dX8_idealOf_4 : decode cX8_idealOf 4 = .ok (.iconst 0, 1) := by decide +kernel
theorem dX8_idealOf_5 : decode cX8_idealOf 5 = .ok (.invokevirtual 79, 3) := by decide +kernel
theorem dX8_idealOf_8 : decode cX8_idealOf 8 = .ok (.ireturn, 1) := by decide +kernel
set_option maxRecDepth 20000 in
theorem ggX8_next_X8_weigh : GoodIn wsX8_next wsX8_weigh := goodIn_r _ [6, 7, 8, 1, 9, 10, 5, 11, 12, 13, 14, 15, 16, 17, 18, 19, 20, 21, 22, 23, 24] (by decide +kernel) (by decide +kernel)
set_option maxRecDepth 20000 in
theorem gX8_next_X8_weigh : GoodIn wsX8_next (wsV RX8 79 RX8 yX8_weigh wsX8_weigh) := goodIn_app (goodIn_of _ (by decide +kernel)) ggX8_next_X8_weigh
theorem dX8_next_0 : decode cX8_next 0 = .ok (.aload_n 0, 1) := by decide +kernel
theorem dX8_next_1 : decode cX8_next 1 = .ok (.aload_n 0, 1) := by decide +kernel
theorem dX8_next_2 : decode cX8_next 2 = .ok (.getfield 7, 3) := by decide +kernel
theorem dX8_next_5 : decode cX8_next 5 = .ok (.iconst 0, 1) := by decide +kernel
theorem dX8_next_6 : decode cX8_next 6 = .ok (.iaload, 1) := by decide +kernel
theorem dX8_next_7 : decode cX8_next 7 = .ok (.aload_n 0, 1) := by decide +kernel
theorem dX8_next_8 : decode cX8_next 8 = .ok (.getfield 7, 3) := by decide +kernel
theorem dX8_next_11 : decode cX8_next 11 = .ok (.iconst 2, 1) := by decide +kernel
theorem dX8_next_12 : decode cX8_next 12 = .ok (.iaload, 1) := by decide +kernel
theorem dX8_next_13 : decode cX8_next 13 = .ok (.aload_n 0, 1) := by decide +kernel
theorem dX8_next_14 : decode cX8_next 14 = .ok (.getfield 7, 3) := by decide +kernel
theorem dX8_next_17 : decode cX8_next 17 = .ok (.iconst 3, 1) := by decide +kernel
theorem dX8_next_18 : decode cX8_next 18 = .ok (.iaload, 1) := by decide +kernel
theorem dX8_next_19 : decode cX8_next 19 = .ok (.aload_n 0, 1) := by decide +kernel
theorem dX8_next_20 : decode cX8_next 20 = .ok (.getfield 7, 3) := by decide +kernel
theorem dX8_next_23 : decode cX8_next 23 = .ok (.iconst 4, 1) := by decide +kernel
theorem dX8_next_24 : decode cX8_next 24 = .ok (.iaload, 1) := by decide +kernel
theorem dX8_next_25 : decode cX8_next 25 = .ok (.invokevirtual 79, 3) := by decide +kernel
theorem dX8_next_28 : decode cX8_next 28 = .ok (.ireturn, 1) := by decide +kernel
set_option maxRecDepth 20000 in
theorem ggX8_convert_X8_saveState : GoodIn wsX8_convert wsX8_saveState := goodIn_r _ [9, 10, 11, 2, 12, 13, 8, 14, 26, 27, 28, 29, 30, 31, 32, 33, 34, 35, 36, 37, 38] (by decide +kernel) (by decide +kernel)
set_option maxRecDepth 20000 in
theorem gX8_convert_X8_saveState : GoodIn wsX8_convert (wsV RX8 49 RX8 yX8_saveState wsX8_saveState) := goodIn_app (goodIn_of _ (by decide +kernel)) ggX8_convert_X8_saveState
set_option maxRecDepth 20000 in
theorem ggX8_convert_X8_next : GoodIn wsX8_convert wsX8_next := goodIn_r _ [18, 2, 19, 20, 21, 8, 22, 4, 3, 23, 24, 25, 26, 27, 28, 29, 30, 31, 32, 33, 34, 35, 36, 37, 38] (by decide +kernel) (by decide +kernel)
set_option maxRecDepth 20000 in
theorem gX8_convert_X8_next : GoodIn wsX8_convert (wsV RX8 83 RX8 yX8_next wsX8_next) := goodIn_app (goodIn_of _ (by decide +kernel)) ggX8_convert_X8_next
theorem dX8_convert_0 : decode cX8_convert 0 = .ok (.aload_n 0, 1) := by decide +kernel
theorem dX8_convert_1 : decode cX8_convert 1 = .ok (.iconst 0, 1) := by decide +kernel
theorem dX8_convert_2 : decode cX8_convert 2 = .ok (.putfield 29, 3) := by decide +kernel
theorem dX8_convert_5 : decode cX8_convert 5 = .ok (.aload_n 0, 1) := by decide +kernel
theorem dX8_convert_6 : decode cX8_convert 6 = .ok (.invokevirtual 49, 3) := by decide +kernel
theorem dX8_convert_9 : decode cX8_convert 9 = .ok (.aload_n 0, 1) := by decide +kernel
theorem dX8_convert_10 : decode cX8_convert 10 = .ok (.invokevirtual 83, 3) := by decide +kernel
theorem dX8_convert_13 : decode cX8_convert 13 = .ok (.istore_n 1, 1) := by decide +kernel
theorem dX8_convert_14 : decode cX8_convert 14 = .ok (.bipush 23, 2) := by decide +kernel
theorem dX8_convert_16 : decode cX8_convert 16 = .ok (.istore_n 2, 1) := by decide +kernel
theorem dX8_convert_17 : decode cX8_convert 17 = .ok (.iload_n 2, 1) := by decide +kernel
theorem dX8_convert_18 : decode cX8_convert 18 = .ok (.iconst 2, 1) := by decide +kernel
theorem dX8_convert_19 : decode cX8_convert 19 = .ok (.if_icmp .le 29, 3) := by decide +kernel
theorem dX8_convert_22 : decode cX8_convert 22 = .ok (.aload_n 0, 1) := by decide +kernel
theorem dX8_convert_23 : decode cX8_convert 23 = .ok (.getfield 7, 3) := by decide +kernel
theorem dX8_convert_26 : decode cX8_convert 26 = .ok (.bipush 19, 2) := by decide +kernel
theorem dX8_convert_28 : decode cX8_convert 28 = .ok (.iload_n 2, 1) := by decide +kernel
theorem dX8_convert_29 : decode cX8_convert 29 = .ok (.iadd, 1) := by decide +kernel
theorem dX8_convert_30 : decode cX8_convert 30 = .ok (.aload_n 0, 1) := by decide +kernel
theorem dX8_convert_31 : decode cX8_convert 31 = .ok (.getfield 7, 3) := by decide +kernel
theorem dX8_convert_34 : decode cX8_convert 34 = .ok (.bipush 19, 2) := by decide +kernel
theorem dX8_convert_36 : decode cX8_convert 36 = .ok (.iload_n 2, 1) := by decide +kernel
theorem dX8_convert_37 : decode cX8_convert 37 = .ok (.iadd, 1) := by decide +kernel
theorem dX8_convert_38 : decode cX8_convert 38 = .ok (.iconst 3, 1) := by decide +kernel
theorem dX8_convert_39 : decode cX8_convert 39 = .ok (.isub, 1) := by decide +kernel
theorem dX8_convert_40 : decode cX8_convert 40 = .ok (.iaload, 1) := by decide +kernel
theorem dX8_convert_41 : decode cX8_convert 41 = .ok (.iastore, 1) := by decide +kernel
theorem dX8_convert_42 : decode cX8_convert 42 = .ok (.iinc 2 (-1), 3) := by decide +kernel
theorem dX8_convert_45 : decode cX8_convert 45 = .ok (.goto (-28), 3) := by decide +kernel
theorem dX8_convert_48 : decode cX8_convert 48 = .ok (.aload_n 0, 1) := by decide +kernel
theorem dX8_convert_49 : decode cX8_convert 49 = .ok (.getfield 7, 3) := by decide +kernel
theorem dX8_convert_52 : decode cX8_convert 52 = .ok (.bipush 19, 2) := by decide +kernel
theorem dX8_convert_54 : decode cX8_convert 54 = .ok (.aload_n 0, 1) := by decide +kernel
theorem dX8_convert_55 : decode cX8_convert 55 = .ok (.getfield 7, 3) := by decide +kernel
theorem dX8_convert_58 : decode cX8_convert 58 = .ok (.iconst 0, 1) := by decide +kernel
theorem dX8_convert_59 : decode cX8_convert 59 = .ok (.iaload, 1) := by decide +kernel
theorem dX8_convert_60 : decode cX8_convert 60 = .ok (.iastore, 1) := by decide +kernel
theorem dX8_convert_61 : decode cX8_convert 61 = .ok (.aload_n 0, 1) := by decide +kernel
theorem dX8_convert_62 : decode cX8_convert 62 = .ok (.getfield 7, 3) := by decide +kernel
theorem dX8_convert_65 : decode cX8_convert 65 = .ok (.bipush 20, 2) := by decide +kernel
theorem dX8_convert_67 : decode cX8_convert 67 = .ok (.aload_n 0, 1) := by decide +kernel
theorem dX8_convert_68 : decode cX8_convert 68 = .ok (.getfield 76, 3) := by decide +kernel
theorem dX8_convert_71 : decode cX8_convert 71 = .ok (.iastore, 1) := by decide +kernel
theorem dX8_convert_72 : decode cX8_convert 72 = .ok (.aload_n 0, 1) := by decide +kernel
theorem dX8_convert_73 : decode cX8_convert 73 = .ok (.getfield 7, 3) := by decide +kernel
theorem dX8_convert_76 : decode cX8_convert 76 = .ok (.bipush 21, 2) := by decide +kernel
theorem dX8_convert_78 : decode cX8_convert 78 = .ok (.iload_n 1, 1) := by decide +kernel
theorem dX8_convert_79 : decode cX8_convert 79 = .ok (.iastore, 1) := by decide +kernel
theorem dX8_convert_80 : decode cX8_convert 80 = .ok (.aload_n 0, 1) := by decide +kernel
theorem dX8_convert_81 : decode cX8_convert 81 = .ok (.getfield 7, 3) := by decide +kernel
theorem dX8_convert_84 : decode cX8_convert 84 = .ok (.bipush 6, 2) := by decide +kernel
theorem dX8_convert_86 : decode cX8_convert 86 = .ok (.aload_n 0, 1) := by decide +kernel
theorem dX8_convert_87 : decode cX8_convert 87 = .ok (.getfield 7, 3) := by decide +kernel
theorem dX8_convert_90 : decode cX8_convert 90 = .ok (.bipush 6, 2) := by decide +kernel
theorem dX8_convert_92 : decode cX8_convert 92 = .ok (.iaload, 1) := by decide +kernel
theorem dX8_convert_93 : decode cX8_convert 93 = .ok (.bipush 8, 2) := by decide +kernel
theorem dX8_convert_95 : decode cX8_convert 95 = .ok (.if_icmp .ge 15, 3) := by decide +kernel
theorem dX8_convert_98 : decode cX8_convert 98 = .ok (.aload_n 0, 1) := by decide +kernel
theorem dX8_convert_99 : decode cX8_convert 99 = .ok (.getfield 7, 3) := by decide +kernel
theorem dX8_convert_102 : decode cX8_convert 102 = .ok (.bipush 6, 2) := by decide +kernel
theorem dX8_convert_104 : decode cX8_convert 104 = .ok (.iaload, 1) := by decide +kernel
theorem dX8_convert_105 : decode cX8_convert 105 = .ok (.iconst 1, 1) := by decide +kernel
theorem dX8_convert_106 : decode cX8_convert 106 = .ok (.iadd, 1) := by decide +kernel
theorem dX8_convert_107 : decode cX8_convert 107 = .ok (.goto 5, 3) := by decide +kernel
theorem dX8_convert_110 : decode cX8_convert 110 = .ok (.bipush 8, 2) := by decide +kernel
theorem dX8_convert_112 : decode cX8_convert 112 = .ok (.iastore, 1) := by decide +kernel
theorem dX8_convert_113 : decode cX8_convert 113 = .ok (.aload_n 0, 1) := by decide +kernel
theorem dX8_convert_114 : decode cX8_convert 114 = .ok (.getfield 7, 3) := by decide +kernel
theorem dX8_convert_117 : decode cX8_convert 117 = .ok (.iconst 0, 1) := by decide +kernel
theorem dX8_convert_118 : decode cX8_convert 118 = .ok (.aload_n 0, 1) := by decide +kernel
theorem dX8_convert_119 : decode cX8_convert 119 = .ok (.getfield 73, 3) := by decide +kernel
theorem dX8_convert_122 : decode cX8_convert 122 = .ok (.iastore, 1) := by decide +kernel
theorem dX8_convert_123 : decode cX8_convert 123 = .ok (.aload_n 0, 1) := by decide +kernel
theorem dX8_convert_124 : decode cX8_convert 124 = .ok (.getfield 7, 3) := by decide +kernel
theorem dX8_convert_127 : decode cX8_convert 127 = .ok (.iconst 4, 1) := by decide +kernel
theorem dX8_convert_128 : decode cX8_convert 128 = .ok (.iconst 0, 1) := by decide +kernel
theorem dX8_convert_129 : decode cX8_convert 129 = .ok (.iastore, 1) := by decide +kernel
theorem dX8_convert_130 : decode cX8_convert 130 = .ok (.iload_n 1, 1) := by decide +kernel
theorem dX8_convert_131 : decode cX8_convert 131 = .ok (.ireturn, 1) := by decide +kernel
theorem dX8_logged_0 : decode cX8_logged 0 = .ok (.aload_n 0, 1) := by decide +kernel
theorem dX8_logged_1 : decode cX8_logged 1 = .ok (.iconst 0, 1) := by decide +kernel
theorem dX8_logged_2 : decode cX8_logged 2 = .ok (.putfield 29, 3) := by decide +kernel
theorem dX8_logged_5 : decode cX8_logged 5 = .ok (.aload_n 0, 1) := by decide +kernel
theorem dX8_logged_6 : decode cX8_logged 6 = .ok (.getfield 7, 3) := by decide +kernel
theorem dX8_logged_9 : decode cX8_logged 9 = .ok (.bipush 6, 2) := by decide +kernel
theorem dX8_logged_11 : decode cX8_logged 11 = .ok (.iaload, 1) := by decide +kernel
theorem dX8_logged_12 : decode cX8_logged 12 = .ok (.ireturn, 1) := by decide +kernel
set_option maxRecDepth 20000 in
theorem ggX8_code_X8_isLogged : GoodIn wsX8_code wsX8_isLogged := goodIn_r _ [6, 1, 7, 8, 5, 9, 15, 16, 17, 18, 19, 20, 21, 22, 23, 24, 25, 26, 27] (by decide +kernel) (by decide +kernel)
set_option maxRecDepth 20000 in
theorem gX8_code_X8_isLogged : GoodIn wsX8_code (wsV RX8 86 RX8 yX8_isLogged wsX8_isLogged) := goodIn_app (goodIn_of _ (by decide +kernel)) ggX8_code_X8_isLogged
set_option maxRecDepth 20000 in
theorem ggX8_code_X8_refused : GoodIn wsX8_code wsX8_refused := goodIn_r _ [13, 14, 15, 16, 17, 18, 19, 20, 21, 22, 23, 24, 25, 26, 27] (by decide +kernel) (by decide +kernel)
set_option maxRecDepth 20000 in
theorem gX8_code_X8_refused : GoodIn wsX8_code (wsV RX8 44 RX8 yX8_refused wsX8_refused) := goodIn_app (goodIn_of _ (by decide +kernel)) ggX8_code_X8_refused
theorem dX8_code_0 : decode cX8_code 0 = .ok (.aload_n 0, 1) := by decide +kernel
theorem dX8_code_1 : decode cX8_code 1 = .ok (.aload_n 0, 1) := by decide +kernel
theorem dX8_code_2 : decode cX8_code 2 = .ok (.iload_n 1, 1) := by decide +kernel
theorem dX8_code_3 : decode cX8_code 3 = .ok (.invokevirtual 86, 3) := by decide +kernel
theorem dX8_code_6 : decode cX8_code 6 = .ok (.ifCond .eq 7, 3) := by decide +kernel
theorem dX8_code_9 : decode cX8_code 9 = .ok (.iconst 0, 1) := by decide +kernel
theorem dX8_code_10 : decode cX8_code 10 = .ok (.goto 4, 3) := by decide +kernel
theorem dX8_code_13 : decode cX8_code 13 = .ok (.iconst 1, 1) := by decide +kernel
theorem dX8_code_14 : decode cX8_code 14 = .ok (.invokevirtual 44, 3) := by decide +kernel
theorem dX8_code_17 : decode cX8_code 17 = .ok (.ifCond .eq 7, 3) := by decide +kernel
theorem dX8_code_20 : decode cX8_code 20 = .ok (.iconst 0, 1) := by decide +kernel
theorem dX8_code_21 : decode cX8_code 21 = .ok (.goto 16, 3) := by decide +kernel
theorem dX8_code_24 : decode cX8_code 24 = .ok (.aload_n 0, 1) := by decide +kernel
theorem dX8_code_25 : decode cX8_code 25 = .ok (.getfield 7, 3) := by decide +kernel
theorem dX8_code_28 : decode cX8_code 28 = .ok (.bipush 19, 2) := by decide +kernel
theorem dX8_code_30 : decode cX8_code 30 = .ok (.iconst 3, 1) := by decide +kernel
theorem dX8_code_31 : decode cX8_code 31 = .ok (.iload_n 1, 1) := by decide +kernel
theorem dX8_code_32 : decode cX8_code 32 = .ok (.imul, 1) := by decide +kernel
theorem dX8_code_33 : decode cX8_code 33 = .ok (.iadd, 1) := by decide +kernel
theorem dX8_code_34 : decode cX8_code 34 = .ok (.iconst 2, 1) := by decide +kernel
theorem dX8_code_35 : decode cX8_code 35 = .ok (.iadd, 1) := by decide +kernel
theorem dX8_code_36 : decode cX8_code 36 = .ok (.iaload, 1) := by decide +kernel
theorem dX8_code_37 : decode cX8_code 37 = .ok (.ireturn, 1) := by decide +kernel
set_option maxRecDepth 20000 in
theorem ggX8_kept_X8_isLogged : GoodIn wsX8_kept wsX8_isLogged := goodIn_r _ [6, 1, 7, 8, 5, 9, 15, 16, 17, 18, 19, 20, 21, 22, 23, 24, 25, 26, 27] (by decide +kernel) (by decide +kernel)
set_option maxRecDepth 20000 in
theorem gX8_kept_X8_isLogged : GoodIn wsX8_kept (wsV RX8 86 RX8 yX8_isLogged wsX8_isLogged) := goodIn_app (goodIn_of _ (by decide +kernel)) ggX8_kept_X8_isLogged
set_option maxRecDepth 20000 in
theorem ggX8_kept_X8_refused : GoodIn wsX8_kept wsX8_refused := goodIn_r _ [13, 14, 15, 16, 17, 18, 19, 20, 21, 22, 23, 24, 25, 26, 27] (by decide +kernel) (by decide +kernel)
set_option maxRecDepth 20000 in
theorem gX8_kept_X8_refused : GoodIn wsX8_kept (wsV RX8 44 RX8 yX8_refused wsX8_refused) := goodIn_app (goodIn_of _ (by decide +kernel)) ggX8_kept_X8_refused
theorem dX8_kept_0 : decode cX8_kept 0 = .ok (.aload_n 0, 1) := by decide +kernel
theorem dX8_kept_1 : decode cX8_kept 1 = .ok (.aload_n 0, 1) := by decide +kernel
theorem dX8_kept_2 : decode cX8_kept 2 = .ok (.iload_n 1, 1) := by decide +kernel
theorem dX8_kept_3 : decode cX8_kept 3 = .ok (.invokevirtual 86, 3) := by decide +kernel
theorem dX8_kept_6 : decode cX8_kept 6 = .ok (.ifCond .eq 7, 3) := by decide +kernel
theorem dX8_kept_9 : decode cX8_kept 9 = .ok (.iconst 0, 1) := by decide +kernel
theorem dX8_kept_10 : decode cX8_kept 10 = .ok (.goto 4, 3) := by decide +kernel
theorem dX8_kept_13 : decode cX8_kept 13 = .ok (.iconst 1, 1) := by decide +kernel
theorem dX8_kept_14 : decode cX8_kept 14 = .ok (.invokevirtual 44, 3) := by decide +kernel
theorem dX8_kept_17 : decode cX8_kept 17 = .ok (.ifCond .eq 7, 3) := by decide +kernel
theorem dX8_kept_20 : decode cX8_kept 20 = .ok (.iconst 0, 1) := by decide +kernel
theorem dX8_kept_21 : decode cX8_kept 21 = .ok (.goto 16, 3) := by decide +kernel
theorem dX8_kept_24 : decode cX8_kept 24 = .ok (.aload_n 0, 1) := by decide +kernel
theorem dX8_kept_25 : decode cX8_kept 25 = .ok (.getfield 7, 3) := by decide +kernel
theorem dX8_kept_28 : decode cX8_kept 28 = .ok (.bipush 19, 2) := by decide +kernel
theorem dX8_kept_30 : decode cX8_kept 30 = .ok (.iconst 3, 1) := by decide +kernel
theorem dX8_kept_31 : decode cX8_kept 31 = .ok (.iload_n 1, 1) := by decide +kernel
theorem dX8_kept_32 : decode cX8_kept 32 = .ok (.imul, 1) := by decide +kernel
theorem dX8_kept_33 : decode cX8_kept 33 = .ok (.iadd, 1) := by decide +kernel
theorem dX8_kept_34 : decode cX8_kept 34 = .ok (.iconst 1, 1) := by decide +kernel
theorem dX8_kept_35 : decode cX8_kept 35 = .ok (.iadd, 1) := by decide +kernel
theorem dX8_kept_36 : decode cX8_kept 36 = .ok (.iaload, 1) := by decide +kernel
theorem dX8_kept_37 : decode cX8_kept 37 = .ok (.ireturn, 1) := by decide +kernel
theorem dX8_errorOf_0 : decode cX8_errorOf 0 = .ok (.bipush 16, 2) := by decide +kernel
theorem dX8_errorOf_2 : decode cX8_errorOf 2 = .ok (.aload_n 0, 1) := by decide +kernel
theorem dX8_errorOf_3 : decode cX8_errorOf 3 = .ok (.getfield 7, 3) := by decide +kernel
theorem dX8_errorOf_6 : decode cX8_errorOf 6 = .ok (.bipush 19, 2) := by decide +kernel
theorem dX8_errorOf_8 : decode cX8_errorOf 8 = .ok (.iconst 3, 1) := by decide +kernel
theorem dX8_errorOf_9 : decode cX8_errorOf 9 = .ok (.iload_n 1, 1) := by decide +kernel
theorem dX8_errorOf_10 : decode cX8_errorOf 10 = .ok (.imul, 1) := by decide +kernel
theorem dX8_errorOf_11 : decode cX8_errorOf 11 = .ok (.iadd, 1) := by decide +kernel
theorem dX8_errorOf_12 : decode cX8_errorOf 12 = .ok (.iconst 2, 1) := by decide +kernel
theorem dX8_errorOf_13 : decode cX8_errorOf 13 = .ok (.iadd, 1) := by decide +kernel
theorem dX8_errorOf_14 : decode cX8_errorOf 14 = .ok (.iaload, 1) := by decide +kernel
theorem dX8_errorOf_15 : decode cX8_errorOf 15 = .ok (.imul, 1) := by decide +kernel
theorem dX8_errorOf_16 : decode cX8_errorOf 16 = .ok (.aload_n 0, 1) := by decide +kernel
theorem dX8_errorOf_17 : decode cX8_errorOf 17 = .ok (.getfield 7, 3) := by decide +kernel
theorem dX8_errorOf_20 : decode cX8_errorOf 20 = .ok (.bipush 19, 2) := by decide +kernel
theorem dX8_errorOf_22 : decode cX8_errorOf 22 = .ok (.iconst 3, 1) := by decide +kernel
theorem dX8_errorOf_23 : decode cX8_errorOf 23 = .ok (.iload_n 1, 1) := by decide +kernel
theorem dX8_errorOf_24 : decode cX8_errorOf 24 = .ok (.imul, 1) := by decide +kernel
theorem dX8_errorOf_25 : decode cX8_errorOf 25 = .ok (.iadd, 1) := by decide +kernel
theorem dX8_errorOf_26 : decode cX8_errorOf 26 = .ok (.iaload, 1) := by decide +kernel
theorem dX8_errorOf_27 : decode cX8_errorOf 27 = .ok (.isub, 1) := by decide +kernel
theorem dX8_errorOf_28 : decode cX8_errorOf 28 = .ok (.ireturn, 1) := by decide +kernel
set_option maxRecDepth 20000 in
theorem ggX8_error_X8_isLogged : GoodIn wsX8_error wsX8_isLogged := goodIn_r _ [5, 6, 7, 8, 4, 9, 19, 20, 21, 22, 23, 24, 25, 26, 27, 28, 29, 30, 31] (by decide +kernel) (by decide +kernel)
set_option maxRecDepth 20000 in
theorem gX8_error_X8_isLogged : GoodIn wsX8_error (wsV RX8 86 RX8 yX8_isLogged wsX8_isLogged) := goodIn_app (goodIn_of _ (by decide +kernel)) ggX8_error_X8_isLogged
set_option maxRecDepth 20000 in
theorem ggX8_error_X8_refused : GoodIn wsX8_error wsX8_refused := goodIn_r _ [13, 14, 19, 20, 21, 22, 23, 24, 25, 26, 27, 28, 29, 30, 31] (by decide +kernel) (by decide +kernel)
set_option maxRecDepth 20000 in
theorem gX8_error_X8_refused : GoodIn wsX8_error (wsV RX8 44 RX8 yX8_refused wsX8_refused) := goodIn_app (goodIn_of _ (by decide +kernel)) ggX8_error_X8_refused
set_option maxRecDepth 20000 in
theorem ggX8_error_X8_errorOf : GoodIn wsX8_error wsX8_errorOf := goodIn_r _ [18, 6, 19, 20, 21, 22, 23, 24, 25, 26, 27, 28, 29, 30, 31] (by decide +kernel) (by decide +kernel)
set_option maxRecDepth 20000 in
theorem gX8_error_X8_errorOf : GoodIn wsX8_error (wsV RX8 89 RX8 yX8_errorOf wsX8_errorOf) := goodIn_app (goodIn_of _ (by decide +kernel)) ggX8_error_X8_errorOf
theorem dX8_error_0 : decode cX8_error 0 = .ok (.aload_n 0, 1) := by decide +kernel
theorem dX8_error_1 : decode cX8_error 1 = .ok (.aload_n 0, 1) := by decide +kernel
theorem dX8_error_2 : decode cX8_error 2 = .ok (.iload_n 1, 1) := by decide +kernel
theorem dX8_error_3 : decode cX8_error 3 = .ok (.invokevirtual 86, 3) := by decide +kernel
theorem dX8_error_6 : decode cX8_error 6 = .ok (.ifCond .eq 7, 3) := by decide +kernel
theorem dX8_error_9 : decode cX8_error 9 = .ok (.iconst 0, 1) := by decide +kernel
theorem dX8_error_10 : decode cX8_error 10 = .ok (.goto 4, 3) := by decide +kernel
theorem dX8_error_13 : decode cX8_error 13 = .ok (.iconst 1, 1) := by decide +kernel
theorem dX8_error_14 : decode cX8_error 14 = .ok (.invokevirtual 44, 3) := by decide +kernel
theorem dX8_error_17 : decode cX8_error 17 = .ok (.ifCond .eq 7, 3) := by decide +kernel
theorem dX8_error_20 : decode cX8_error 20 = .ok (.iconst 0, 1) := by decide +kernel
theorem dX8_error_21 : decode cX8_error 21 = .ok (.goto 8, 3) := by decide +kernel
theorem dX8_error_24 : decode cX8_error 24 = .ok (.aload_n 0, 1) := by decide +kernel
theorem dX8_error_25 : decode cX8_error 25 = .ok (.iload_n 1, 1) := by decide +kernel
theorem dX8_error_26 : decode cX8_error 26 = .ok (.invokevirtual 89, 3) := by decide +kernel
theorem dX8_error_29 : decode cX8_error 29 = .ok (.ireturn, 1) := by decide +kernel
set_option maxRecDepth 20000 in
theorem ggX8_meanError_X8_errorOf : GoodIn wsX8_meanError wsX8_errorOf := goodIn_r _ [7, 2, 8, 9, 10, 11, 12, 13, 14, 15, 16, 17, 18, 19, 20] (by decide +kernel) (by decide +kernel)
set_option maxRecDepth 20000 in
theorem gX8_meanError_X8_errorOf : GoodIn wsX8_meanError (wsV RX8 89 RX8 yX8_errorOf wsX8_errorOf) := goodIn_app (goodIn_of _ (by decide +kernel)) ggX8_meanError_X8_errorOf
theorem dX8_meanError_0 : decode cX8_meanError 0 = .ok (.aload_n 0, 1) := by decide +kernel
theorem dX8_meanError_1 : decode cX8_meanError 1 = .ok (.iconst 0, 1) := by decide +kernel
theorem dX8_meanError_2 : decode cX8_meanError 2 = .ok (.putfield 29, 3) := by decide +kernel
theorem dX8_meanError_5 : decode cX8_meanError 5 = .ok (.iconst 0, 1) := by decide +kernel
theorem dX8_meanError_6 : decode cX8_meanError 6 = .ok (.istore_n 1, 1) := by decide +kernel
theorem dX8_meanError_7 : decode cX8_meanError 7 = .ok (.iconst 0, 1) := by decide +kernel
theorem dX8_meanError_8 : decode cX8_meanError 8 = .ok (.istore_n 2, 1) := by decide +kernel
theorem dX8_meanError_9 : decode cX8_meanError 9 = .ok (.iload_n 2, 1) := by decide +kernel
theorem dX8_meanError_10 : decode cX8_meanError 10 = .ok (.aload_n 0, 1) := by decide +kernel
theorem dX8_meanError_11 : decode cX8_meanError 11 = .ok (.getfield 7, 3) := by decide +kernel
theorem dX8_meanError_14 : decode cX8_meanError 14 = .ok (.bipush 6, 2) := by decide +kernel
theorem dX8_meanError_16 : decode cX8_meanError 16 = .ok (.iaload, 1) := by decide +kernel
theorem dX8_meanError_17 : decode cX8_meanError 17 = .ok (.if_icmp .ge 17, 3) := by decide +kernel
theorem dX8_meanError_20 : decode cX8_meanError 20 = .ok (.iload_n 1, 1) := by decide +kernel
theorem dX8_meanError_21 : decode cX8_meanError 21 = .ok (.aload_n 0, 1) := by decide +kernel
theorem dX8_meanError_22 : decode cX8_meanError 22 = .ok (.iload_n 2, 1) := by decide +kernel
theorem dX8_meanError_23 : decode cX8_meanError 23 = .ok (.invokevirtual 89, 3) := by decide +kernel
theorem dX8_meanError_26 : decode cX8_meanError 26 = .ok (.iadd, 1) := by decide +kernel
theorem dX8_meanError_27 : decode cX8_meanError 27 = .ok (.istore_n 1, 1) := by decide +kernel
theorem dX8_meanError_28 : decode cX8_meanError 28 = .ok (.iinc 2 1, 3) := by decide +kernel
theorem dX8_meanError_31 : decode cX8_meanError 31 = .ok (.goto (-22), 3) := by decide +kernel
theorem dX8_meanError_34 : decode cX8_meanError 34 = .ok (.iload_n 1, 1) := by decide +kernel
theorem dX8_meanError_35 : decode cX8_meanError 35 = .ok (.i2d, 1) := by decide +kernel
theorem dX8_meanError_36 : decode cX8_meanError 36 = .ok (.dstore_n 2, 1) := by decide +kernel
theorem dX8_meanError_37 : decode cX8_meanError 37 = .ok (.aload_n 0, 1) := by decide +kernel
theorem dX8_meanError_38 : decode cX8_meanError 38 = .ok (.getfield 7, 3) := by decide +kernel
theorem dX8_meanError_41 : decode cX8_meanError 41 = .ok (.bipush 6, 2) := by decide +kernel
theorem dX8_meanError_43 : decode cX8_meanError 43 = .ok (.iaload, 1) := by decide +kernel
theorem dX8_meanError_44 : decode cX8_meanError 44 = .ok (.i2d, 1) := by decide +kernel
theorem dX8_meanError_45 : decode cX8_meanError 45 = .ok (.dstore 4, 2) := by decide +kernel
theorem dX8_meanError_47 : decode cX8_meanError 47 = .ok (.aload_n 0, 1) := by decide +kernel
theorem dX8_meanError_48 : decode cX8_meanError 48 = .ok (.getfield 7, 3) := by decide +kernel
theorem dX8_meanError_51 : decode cX8_meanError 51 = .ok (.bipush 6, 2) := by decide +kernel
theorem dX8_meanError_53 : decode cX8_meanError 53 = .ok (.iaload, 1) := by decide +kernel
theorem dX8_meanError_54 : decode cX8_meanError 54 = .ok (.ifCond .ne 7, 3) := by decide +kernel
theorem dX8_meanError_57 : decode cX8_meanError 57 = .ok (.dconst 0, 1) := by decide +kernel
theorem dX8_meanError_58 : decode cX8_meanError 58 = .ok (.goto 7, 3) := by decide +kernel
theorem dX8_meanError_61 : decode cX8_meanError 61 = .ok (.dload_n 2, 1) := by decide +kernel
theorem dX8_meanError_62 : decode cX8_meanError 62 = .ok (.dload 4, 2) := by decide +kernel
theorem dX8_meanError_64 : decode cX8_meanError 64 = .ok (.ddiv, 1) := by decide +kernel
theorem dX8_meanError_65 : decode cX8_meanError 65 = .ok (.dreturn, 1) := by decide +kernel
set_option maxRecDepth 20000 in
theorem ggX8_ideal_X8_in : GoodIn wsX8_ideal wsX8_in := goodIn_r _ [5] (by decide +kernel) (by decide +kernel)
set_option maxRecDepth 20000 in
theorem gX8_ideal_X8_in : GoodIn wsX8_ideal (va_wsS RX8 33 yX8_in wsX8_in) := goodIn_app (goodIn_of _ (by decide +kernel)) ggX8_ideal_X8_in
set_option maxRecDepth 20000 in
theorem ggX8_ideal_X8_refused : GoodIn wsX8_ideal wsX8_refused := goodIn_r _ [9, 10, 25, 26, 27, 28, 29, 30, 31, 32, 33, 34, 35, 36, 37] (by decide +kernel) (by decide +kernel)
set_option maxRecDepth 20000 in
theorem gX8_ideal_X8_refused : GoodIn wsX8_ideal (wsV RX8 44 RX8 yX8_refused wsX8_refused) := goodIn_app (goodIn_of _ (by decide +kernel)) ggX8_ideal_X8_refused
set_option maxRecDepth 20000 in
theorem ggX8_ideal_X8_idealOf : GoodIn wsX8_ideal wsX8_idealOf := goodIn_r _ [14, 15, 16, 17, 4, 18, 19, 20, 21, 22, 23, 24, 25, 26, 27, 28, 29, 30, 31, 32, 33, 34, 35, 36, 37] (by decide +kernel) (by decide +kernel)
set_option maxRecDepth 20000 in
theorem gX8_ideal_X8_idealOf : GoodIn wsX8_ideal (wsV RX8 92 RX8 yX8_idealOf wsX8_idealOf) := goodIn_app (goodIn_of _ (by decide +kernel)) ggX8_ideal_X8_idealOf
theorem dX8_ideal_0 : decode cX8_ideal 0 = .ok (.aload_n 0, 1) := by decide +kernel
theorem dX8_ideal_1 : decode cX8_ideal 1 = .ok (.iload_n 1, 1) := by decide +kernel
theorem dX8_ideal_2 : decode cX8_ideal 2 = .ok (.iconst 0, 1) := by decide +kernel
theorem dX8_ideal_3 : decode cX8_ideal 3 = .ok (.ldc 48, 2) := by decide +kernel
theorem dX8_ideal_5 : decode cX8_ideal 5 = .ok (.invokestatic 33, 3) := by decide +kernel
theorem dX8_ideal_8 : decode cX8_ideal 8 = .ok (.ifCond .eq 7, 3) := by decide +kernel
theorem dX8_ideal_11 : decode cX8_ideal 11 = .ok (.iconst 0, 1) := by decide +kernel
theorem dX8_ideal_12 : decode cX8_ideal 12 = .ok (.goto 4, 3) := by decide +kernel
theorem dX8_ideal_15 : decode cX8_ideal 15 = .ok (.iconst 1, 1) := by decide +kernel
theorem dX8_ideal_16 : decode cX8_ideal 16 = .ok (.invokevirtual 44, 3) := by decide +kernel
theorem dX8_ideal_19 : decode cX8_ideal 19 = .ok (.ifCond .eq 7, 3) := by decide +kernel
theorem dX8_ideal_22 : decode cX8_ideal 22 = .ok (.iconst 0, 1) := by decide +kernel
theorem dX8_ideal_23 : decode cX8_ideal 23 = .ok (.goto 8, 3) := by decide +kernel
theorem dX8_ideal_26 : decode cX8_ideal 26 = .ok (.aload_n 0, 1) := by decide +kernel
theorem dX8_ideal_27 : decode cX8_ideal 27 = .ok (.iload_n 1, 1) := by decide +kernel
theorem dX8_ideal_28 : decode cX8_ideal 28 = .ok (.invokevirtual 92, 3) := by decide +kernel
theorem dX8_ideal_31 : decode cX8_ideal 31 = .ok (.ireturn, 1) := by decide +kernel
set_option maxRecDepth 20000 in
theorem ggX8_nextCode_X8_next : GoodIn wsX8_nextCode wsX8_next := goodIn_r _ [6, 7, 8, 9, 10, 5, 11, 12, 13, 14, 15, 16, 17, 18, 19, 20, 21, 22, 23, 24, 25, 26, 27, 28, 29] (by decide +kernel) (by decide +kernel)
set_option maxRecDepth 20000 in
theorem gX8_nextCode_X8_next : GoodIn wsX8_nextCode (wsV RX8 83 RX8 yX8_next wsX8_next) := goodIn_app (goodIn_of _ (by decide +kernel)) ggX8_nextCode_X8_next
theorem dX8_nextCode_0 : decode cX8_nextCode 0 = .ok (.aload_n 0, 1) := by decide +kernel
theorem dX8_nextCode_1 : decode cX8_nextCode 1 = .ok (.iconst 0, 1) := by decide +kernel
theorem dX8_nextCode_2 : decode cX8_nextCode 2 = .ok (.putfield 29, 3) := by decide +kernel
theorem dX8_nextCode_5 : decode cX8_nextCode 5 = .ok (.aload_n 0, 1) := by decide +kernel
theorem dX8_nextCode_6 : decode cX8_nextCode 6 = .ok (.invokevirtual 83, 3) := by decide +kernel
theorem dX8_nextCode_9 : decode cX8_nextCode 9 = .ok (.ireturn, 1) := by decide +kernel
theorem dX8_countSums_0 : decode cX8_countSums 0 = .ok (.iconst 0, 1) := by decide +kernel
theorem dX8_countSums_1 : decode cX8_countSums 1 = .ok (.istore_n 1, 1) := by decide +kernel
theorem dX8_countSums_2 : decode cX8_countSums 2 = .ok (.iload_n 1, 1) := by decide +kernel
theorem dX8_countSums_3 : decode cX8_countSums 3 = .ok (.sipush 4096, 3) := by decide +kernel
theorem dX8_countSums_6 : decode cX8_countSums 6 = .ok (.if_icmp .ge 24, 3) := by decide +kernel
theorem dX8_countSums_9 : decode cX8_countSums 9 = .ok (.aload_n 0, 1) := by decide +kernel
theorem dX8_countSums_10 : decode cX8_countSums 10 = .ok (.getfield 22, 3) := by decide +kernel
theorem dX8_countSums_13 : decode cX8_countSums 13 = .ok (.iload_n 1, 1) := by decide +kernel
theorem dX8_countSums_14 : decode cX8_countSums 14 = .ok (.iload_n 1, 1) := by decide +kernel
theorem dX8_countSums_15 : decode cX8_countSums 15 = .ok (.ifCond .ne 7, 3) := by decide +kernel
theorem dX8_countSums_18 : decode cX8_countSums 18 = .ok (.iconst 1, 1) := by decide +kernel
theorem dX8_countSums_19 : decode cX8_countSums 19 = .ok (.goto 4, 3) := by decide +kernel
theorem dX8_countSums_22 : decode cX8_countSums 22 = .ok (.iconst 0, 1) := by decide +kernel
theorem dX8_countSums_23 : decode cX8_countSums 23 = .ok (.bastore, 1) := by decide +kernel
theorem dX8_countSums_24 : decode cX8_countSums 24 = .ok (.iinc 1 1, 3) := by decide +kernel
theorem dX8_countSums_27 : decode cX8_countSums 27 = .ok (.goto (-25), 3) := by decide +kernel
theorem dX8_countSums_30 : decode cX8_countSums 30 = .ok (.iconst 0, 1) := by decide +kernel
theorem dX8_countSums_31 : decode cX8_countSums 31 = .ok (.istore_n 1, 1) := by decide +kernel
theorem dX8_countSums_32 : decode cX8_countSums 32 = .ok (.iload_n 1, 1) := by decide +kernel
theorem dX8_countSums_33 : decode cX8_countSums 33 = .ok (.aload_n 0, 1) := by decide +kernel
theorem dX8_countSums_34 : decode cX8_countSums 34 = .ok (.getfield 7, 3) := by decide +kernel
theorem dX8_countSums_37 : decode cX8_countSums 37 = .ok (.iconst 5, 1) := by decide +kernel
theorem dX8_countSums_38 : decode cX8_countSums 38 = .ok (.iaload, 1) := by decide +kernel
theorem dX8_countSums_39 : decode cX8_countSums 39 = .ok (.if_icmp .ge 71, 3) := by decide +kernel
theorem dX8_countSums_42 : decode cX8_countSums 42 = .ok (.sipush 4095, 3) := by decide +kernel
theorem dX8_countSums_45 : decode cX8_countSums 45 = .ok (.istore_n 2, 1) := by decide +kernel
theorem dX8_countSums_46 : decode cX8_countSums 46 = .ok (.iload_n 2, 1) := by decide +kernel
theorem dX8_countSums_47 : decode cX8_countSums 47 = .ok (.aload_n 0, 1) := by decide +kernel
theorem dX8_countSums_48 : decode cX8_countSums 48 = .ok (.getfield 7, 3) := by decide +kernel
theorem dX8_countSums_51 : decode cX8_countSums 51 = .ok (.bipush 7, 2) := by decide +kernel
theorem dX8_countSums_53 : decode cX8_countSums 53 = .ok (.iload_n 1, 1) := by decide +kernel
theorem dX8_countSums_54 : decode cX8_countSums 54 = .ok (.iadd, 1) := by decide +kernel
theorem dX8_countSums_55 : decode cX8_countSums 55 = .ok (.iaload, 1) := by decide +kernel
theorem dX8_countSums_56 : decode cX8_countSums 56 = .ok (.if_icmp .lt 48, 3) := by decide +kernel
theorem dX8_countSums_59 : decode cX8_countSums 59 = .ok (.aload_n 0, 1) := by decide +kernel
theorem dX8_countSums_60 : decode cX8_countSums 60 = .ok (.getfield 22, 3) := by decide +kernel
theorem dX8_countSums_63 : decode cX8_countSums 63 = .ok (.iload_n 2, 1) := by decide +kernel
theorem dX8_countSums_64 : decode cX8_countSums 64 = .ok (.aload_n 0, 1) := by decide +kernel
theorem dX8_countSums_65 : decode cX8_countSums 65 = .ok (.getfield 22, 3) := by decide +kernel
theorem dX8_countSums_68 : decode cX8_countSums 68 = .ok (.iload_n 2, 1) := by decide +kernel
theorem dX8_countSums_69 : decode cX8_countSums 69 = .ok (.baload, 1) := by decide +kernel
theorem dX8_countSums_70 : decode cX8_countSums 70 = .ok (.ifCond .ne 22, 3) := by decide +kernel
theorem dX8_countSums_73 : decode cX8_countSums 73 = .ok (.aload_n 0, 1) := by decide +kernel
theorem dX8_countSums_74 : decode cX8_countSums 74 = .ok (.getfield 22, 3) := by decide +kernel
theorem dX8_countSums_77 : decode cX8_countSums 77 = .ok (.iload_n 2, 1) := by decide +kernel
theorem dX8_countSums_78 : decode cX8_countSums 78 = .ok (.aload_n 0, 1) := by decide +kernel
theorem dX8_countSums_79 : decode cX8_countSums 79 = .ok (.getfield 7, 3) := by decide +kernel
theorem dX8_countSums_82 : decode cX8_countSums 82 = .ok (.bipush 7, 2) := by decide +kernel
theorem dX8_countSums_84 : decode cX8_countSums 84 = .ok (.iload_n 1, 1) := by decide +kernel
theorem dX8_countSums_85 : decode cX8_countSums 85 = .ok (.iadd, 1) := by decide +kernel
theorem dX8_countSums_86 : decode cX8_countSums 86 = .ok (.iaload, 1) := by decide +kernel
theorem dX8_countSums_87 : decode cX8_countSums 87 = .ok (.isub, 1) := by decide +kernel
theorem dX8_countSums_88 : decode cX8_countSums 88 = .ok (.baload, 1) := by decide +kernel
theorem dX8_countSums_89 : decode cX8_countSums 89 = .ok (.ifCond .eq 7, 3) := by decide +kernel
theorem dX8_countSums_92 : decode cX8_countSums 92 = .ok (.iconst 1, 1) := by decide +kernel
theorem dX8_countSums_93 : decode cX8_countSums 93 = .ok (.goto 4, 3) := by decide +kernel
theorem dX8_countSums_96 : decode cX8_countSums 96 = .ok (.iconst 0, 1) := by decide +kernel
theorem dX8_countSums_97 : decode cX8_countSums 97 = .ok (.bastore, 1) := by decide +kernel
theorem dX8_countSums_98 : decode cX8_countSums 98 = .ok (.iinc 2 (-1), 3) := by decide +kernel
theorem dX8_countSums_101 : decode cX8_countSums 101 = .ok (.goto (-55), 3) := by decide +kernel
theorem dX8_countSums_104 : decode cX8_countSums 104 = .ok (.iinc 1 1, 3) := by decide +kernel
theorem dX8_countSums_107 : decode cX8_countSums 107 = .ok (.goto (-75), 3) := by decide +kernel
theorem dX8_countSums_110 : decode cX8_countSums 110 = .ok (.iconst 0, 1) := by decide +kernel
theorem dX8_countSums_111 : decode cX8_countSums 111 = .ok (.istore_n 1, 1) := by decide +kernel
theorem dX8_countSums_112 : decode cX8_countSums 112 = .ok (.iconst 0, 1) := by decide +kernel
theorem dX8_countSums_113 : decode cX8_countSums 113 = .ok (.istore_n 2, 1) := by decide +kernel
theorem dX8_countSums_114 : decode cX8_countSums 114 = .ok (.iload_n 2, 1) := by decide +kernel
theorem dX8_countSums_115 : decode cX8_countSums 115 = .ok (.sipush 4096, 3) := by decide +kernel
theorem dX8_countSums_118 : decode cX8_countSums 118 = .ok (.if_icmp .ge 26, 3) := by decide +kernel
theorem dX8_countSums_121 : decode cX8_countSums 121 = .ok (.iload_n 1, 1) := by decide +kernel
theorem dX8_countSums_122 : decode cX8_countSums 122 = .ok (.aload_n 0, 1) := by decide +kernel
theorem dX8_countSums_123 : decode cX8_countSums 123 = .ok (.getfield 22, 3) := by decide +kernel
theorem dX8_countSums_126 : decode cX8_countSums 126 = .ok (.iload_n 2, 1) := by decide +kernel
theorem dX8_countSums_127 : decode cX8_countSums 127 = .ok (.baload, 1) := by decide +kernel
theorem dX8_countSums_128 : decode cX8_countSums 128 = .ok (.ifCond .eq 7, 3) := by decide +kernel
theorem dX8_countSums_131 : decode cX8_countSums 131 = .ok (.iconst 1, 1) := by decide +kernel
theorem dX8_countSums_132 : decode cX8_countSums 132 = .ok (.goto 4, 3) := by decide +kernel
theorem dX8_countSums_135 : decode cX8_countSums 135 = .ok (.iconst 0, 1) := by decide +kernel
theorem dX8_countSums_136 : decode cX8_countSums 136 = .ok (.iadd, 1) := by decide +kernel
theorem dX8_countSums_137 : decode cX8_countSums 137 = .ok (.istore_n 1, 1) := by decide +kernel
theorem dX8_countSums_138 : decode cX8_countSums 138 = .ok (.iinc 2 1, 3) := by decide +kernel
theorem dX8_countSums_141 : decode cX8_countSums 141 = .ok (.goto (-27), 3) := by decide +kernel
theorem dX8_countSums_144 : decode cX8_countSums 144 = .ok (.iload_n 1, 1) := by decide +kernel
theorem dX8_countSums_145 : decode cX8_countSums 145 = .ok (.ireturn, 1) := by decide +kernel
set_option maxRecDepth 20000 in
theorem ggX8_sums_X8_countSums : GoodIn wsX8_sums wsX8_countSums := goodIn_r _ [6, 7, 8, 9, 10, 11, 12, 13, 14, 15, 16, 17, 18, 19, 20, 21] (by decide +kernel) (by decide +kernel)
set_option maxRecDepth 20000 in
theorem gX8_sums_X8_countSums : GoodIn wsX8_sums (wsV RX8 95 RX8 yX8_countSums wsX8_countSums) := goodIn_app (goodIn_of _ (by decide +kernel)) ggX8_sums_X8_countSums
theorem dX8_sums_0 : decode cX8_sums 0 = .ok (.aload_n 0, 1) := by decide +kernel
theorem dX8_sums_1 : decode cX8_sums 1 = .ok (.iconst 0, 1) := by decide +kernel
theorem dX8_sums_2 : decode cX8_sums 2 = .ok (.putfield 29, 3) := by decide +kernel
theorem dX8_sums_5 : decode cX8_sums 5 = .ok (.aload_n 0, 1) := by decide +kernel
theorem dX8_sums_6 : decode cX8_sums 6 = .ok (.invokevirtual 95, 3) := by decide +kernel
theorem dX8_sums_9 : decode cX8_sums 9 = .ok (.ireturn, 1) := by decide +kernel
theorem dX8_missing_0 : decode cX8_missing 0 = .ok (.iconst 0, 1) := by decide +kernel
theorem dX8_missing_1 : decode cX8_missing 1 = .ok (.istore_n 1, 1) := by decide +kernel
theorem dX8_missing_2 : decode cX8_missing 2 = .ok (.iconst 0, 1) := by decide +kernel
theorem dX8_missing_3 : decode cX8_missing 3 = .ok (.istore_n 2, 1) := by decide +kernel
theorem dX8_missing_4 : decode cX8_missing 4 = .ok (.iconst 1, 1) := by decide +kernel
theorem dX8_missing_5 : decode cX8_missing 5 = .ok (.istore_n 3, 1) := by decide +kernel
theorem dX8_missing_6 : decode cX8_missing 6 = .ok (.iload_n 3, 1) := by decide +kernel
theorem dX8_missing_7 : decode cX8_missing 7 = .ok (.ifCond .eq 75, 3) := by decide +kernel
theorem dX8_missing_10 : decode cX8_missing 10 = .ok (.iconst 0, 1) := by decide +kernel
theorem dX8_missing_11 : decode cX8_missing 11 = .ok (.istore_n 3, 1) := by decide +kernel
theorem dX8_missing_12 : decode cX8_missing 12 = .ok (.iconst 0, 1) := by decide +kernel
theorem dX8_missing_13 : decode cX8_missing 13 = .ok (.istore 4, 2) := by decide +kernel
theorem dX8_missing_15 : decode cX8_missing 15 = .ok (.iload 4, 2) := by decide +kernel
theorem dX8_missing_17 : decode cX8_missing 17 = .ok (.aload_n 0, 1) := by decide +kernel
theorem dX8_missing_18 : decode cX8_missing 18 = .ok (.getfield 7, 3) := by decide +kernel
theorem dX8_missing_21 : decode cX8_missing 21 = .ok (.iconst 5, 1) := by decide +kernel
theorem dX8_missing_22 : decode cX8_missing 22 = .ok (.iaload, 1) := by decide +kernel
theorem dX8_missing_23 : decode cX8_missing 23 = .ok (.if_icmp .ge 56, 3) := by decide +kernel
theorem dX8_missing_26 : decode cX8_missing 26 = .ok (.iload_n 2, 1) := by decide +kernel
theorem dX8_missing_27 : decode cX8_missing 27 = .ok (.iload 4, 2) := by decide +kernel
theorem dX8_missing_29 : decode cX8_missing 29 = .ok (.ishr, 1) := by decide +kernel
theorem dX8_missing_30 : decode cX8_missing 30 = .ok (.iconst 1, 1) := by decide +kernel
theorem dX8_missing_31 : decode cX8_missing 31 = .ok (.iand, 1) := by decide +kernel
theorem dX8_missing_32 : decode cX8_missing 32 = .ok (.ifCond .ne 41, 3) := by decide +kernel
theorem dX8_missing_35 : decode cX8_missing 35 = .ok (.aload_n 0, 1) := by decide +kernel
theorem dX8_missing_36 : decode cX8_missing 36 = .ok (.getfield 7, 3) := by decide +kernel
theorem dX8_missing_39 : decode cX8_missing 39 = .ok (.bipush 7, 2) := by decide +kernel
theorem dX8_missing_41 : decode cX8_missing 41 = .ok (.iload 4, 2) := by decide +kernel
theorem dX8_missing_43 : decode cX8_missing 43 = .ok (.iadd, 1) := by decide +kernel
theorem dX8_missing_44 : decode cX8_missing 44 = .ok (.iaload, 1) := by decide +kernel
theorem dX8_missing_45 : decode cX8_missing 45 = .ok (.iload_n 1, 1) := by decide +kernel
theorem dX8_missing_46 : decode cX8_missing 46 = .ok (.iconst 1, 1) := by decide +kernel
theorem dX8_missing_47 : decode cX8_missing 47 = .ok (.iadd, 1) := by decide +kernel
theorem dX8_missing_48 : decode cX8_missing 48 = .ok (.if_icmp .gt 25, 3) := by decide +kernel
theorem dX8_missing_51 : decode cX8_missing 51 = .ok (.iload_n 1, 1) := by decide +kernel
theorem dX8_missing_52 : decode cX8_missing 52 = .ok (.aload_n 0, 1) := by decide +kernel
theorem dX8_missing_53 : decode cX8_missing 53 = .ok (.getfield 7, 3) := by decide +kernel
theorem dX8_missing_56 : decode cX8_missing 56 = .ok (.bipush 7, 2) := by decide +kernel
theorem dX8_missing_58 : decode cX8_missing 58 = .ok (.iload 4, 2) := by decide +kernel
theorem dX8_missing_60 : decode cX8_missing 60 = .ok (.iadd, 1) := by decide +kernel
theorem dX8_missing_61 : decode cX8_missing 61 = .ok (.iaload, 1) := by decide +kernel
theorem dX8_missing_62 : decode cX8_missing 62 = .ok (.iadd, 1) := by decide +kernel
theorem dX8_missing_63 : decode cX8_missing 63 = .ok (.istore_n 1, 1) := by decide +kernel
theorem dX8_missing_64 : decode cX8_missing 64 = .ok (.iload_n 2, 1) := by decide +kernel
theorem dX8_missing_65 : decode cX8_missing 65 = .ok (.iconst 1, 1) := by decide +kernel
theorem dX8_missing_66 : decode cX8_missing 66 = .ok (.iload 4, 2) := by decide +kernel
theorem dX8_missing_68 : decode cX8_missing 68 = .ok (.ishl, 1) := by decide +kernel
theorem dX8_missing_69 : decode cX8_missing 69 = .ok (.ior, 1) := by decide +kernel
theorem dX8_missing_70 : decode cX8_missing 70 = .ok (.istore_n 2, 1) := by decide +kernel
theorem dX8_missing_71 : decode cX8_missing 71 = .ok (.iconst 1, 1) := by decide +kernel
theorem dX8_missing_72 : decode cX8_missing 72 = .ok (.istore_n 3, 1) := by decide +kernel
theorem dX8_missing_73 : decode cX8_missing 73 = .ok (.iinc 4 1, 3) := by decide +kernel
theorem dX8_missing_76 : decode cX8_missing 76 = .ok (.goto (-61), 3) := by decide +kernel
theorem dX8_missing_79 : decode cX8_missing 79 = .ok (.goto (-73), 3) := by decide +kernel
theorem dX8_missing_82 : decode cX8_missing 82 = .ok (.iload_n 1, 1) := by decide +kernel
theorem dX8_missing_83 : decode cX8_missing 83 = .ok (.iconst 1, 1) := by decide +kernel
theorem dX8_missing_84 : decode cX8_missing 84 = .ok (.iadd, 1) := by decide +kernel
theorem dX8_missing_85 : decode cX8_missing 85 = .ok (.ireturn, 1) := by decide +kernel
set_option maxRecDepth 20000 in
theorem ggX8_leastMissing_X8_missing : GoodIn wsX8_leastMissing wsX8_missing := goodIn_r _ [6, 7, 8, 9, 10, 11, 12, 13, 14, 15, 16, 17, 18, 19, 20] (by decide +kernel) (by decide +kernel)
set_option maxRecDepth 20000 in
theorem gX8_leastMissing_X8_missing : GoodIn wsX8_leastMissing (wsV RX8 98 RX8 yX8_missing wsX8_missing) := goodIn_app (goodIn_of _ (by decide +kernel)) ggX8_leastMissing_X8_missing
theorem dX8_leastMissing_0 : decode cX8_leastMissing 0 = .ok (.aload_n 0, 1) := by decide +kernel
theorem dX8_leastMissing_1 : decode cX8_leastMissing 1 = .ok (.iconst 0, 1) := by decide +kernel
theorem dX8_leastMissing_2 : decode cX8_leastMissing 2 = .ok (.putfield 29, 3) := by decide +kernel
theorem dX8_leastMissing_5 : decode cX8_leastMissing 5 = .ok (.aload_n 0, 1) := by decide +kernel
theorem dX8_leastMissing_6 : decode cX8_leastMissing 6 = .ok (.invokevirtual 98, 3) := by decide +kernel
theorem dX8_leastMissing_9 : decode cX8_leastMissing 9 = .ok (.ireturn, 1) := by decide +kernel
set_option maxRecDepth 20000 in
theorem ggX8_mendedBy_X8_weigh : GoodIn wsX8_mendedBy wsX8_weigh := goodIn_r _ [5, 6, 7, 8, 9, 10, 4, 11, 12, 13, 14, 15, 16, 17, 18, 19, 20, 21, 22, 23, 24] (by decide +kernel) (by decide +kernel)
set_option maxRecDepth 20000 in
theorem gX8_mendedBy_X8_weigh : GoodIn wsX8_mendedBy (wsV RX8 79 RX8 yX8_weigh wsX8_weigh) := goodIn_app (goodIn_of _ (by decide +kernel)) ggX8_mendedBy_X8_weigh
theorem dX8_mendedBy_0 : decode cX8_mendedBy 0 = .ok (.iconst 0, 1) := by decide +kernel
theorem dX8_mendedBy_1 : decode cX8_mendedBy 1 = .ok (.istore_n 2, 1) := by decide +kernel
theorem dX8_mendedBy_2 : decode cX8_mendedBy 2 = .ok (.iconst 0, 1) := by decide +kernel
theorem dX8_mendedBy_3 : decode cX8_mendedBy 3 = .ok (.istore_n 3, 1) := by decide +kernel
theorem dX8_mendedBy_4 : decode cX8_mendedBy 4 = .ok (.iload_n 3, 1) := by decide +kernel
theorem dX8_mendedBy_5 : decode cX8_mendedBy 5 = .ok (.sipush 256, 3) := by decide +kernel
theorem dX8_mendedBy_8 : decode cX8_mendedBy 8 = .ok (.if_icmp .ge 34, 3) := by decide +kernel
theorem dX8_mendedBy_11 : decode cX8_mendedBy 11 = .ok (.iload_n 2, 1) := by decide +kernel
theorem dX8_mendedBy_12 : decode cX8_mendedBy 12 = .ok (.aload_n 0, 1) := by decide +kernel
theorem dX8_mendedBy_13 : decode cX8_mendedBy 13 = .ok (.bipush 16, 2) := by decide +kernel
theorem dX8_mendedBy_15 : decode cX8_mendedBy 15 = .ok (.iload_n 3, 1) := by decide +kernel
theorem dX8_mendedBy_16 : decode cX8_mendedBy 16 = .ok (.imul, 1) := by decide +kernel
theorem dX8_mendedBy_17 : decode cX8_mendedBy 17 = .ok (.iconst 0, 1) := by decide +kernel
theorem dX8_mendedBy_18 : decode cX8_mendedBy 18 = .ok (.iconst 0, 1) := by decide +kernel
theorem dX8_mendedBy_19 : decode cX8_mendedBy 19 = .ok (.iconst 1, 1) := by decide +kernel
theorem dX8_mendedBy_20 : decode cX8_mendedBy 20 = .ok (.iload_n 1, 1) := by decide +kernel
theorem dX8_mendedBy_21 : decode cX8_mendedBy 21 = .ok (.ishl, 1) := by decide +kernel
theorem dX8_mendedBy_22 : decode cX8_mendedBy 22 = .ok (.invokevirtual 79, 3) := by decide +kernel
theorem dX8_mendedBy_25 : decode cX8_mendedBy 25 = .ok (.iload_n 3, 1) := by decide +kernel
theorem dX8_mendedBy_26 : decode cX8_mendedBy 26 = .ok (.if_icmp .ne 7, 3) := by decide +kernel
theorem dX8_mendedBy_29 : decode cX8_mendedBy 29 = .ok (.iconst 1, 1) := by decide +kernel
theorem dX8_mendedBy_30 : decode cX8_mendedBy 30 = .ok (.goto 4, 3) := by decide +kernel
theorem dX8_mendedBy_33 : decode cX8_mendedBy 33 = .ok (.iconst 0, 1) := by decide +kernel
theorem dX8_mendedBy_34 : decode cX8_mendedBy 34 = .ok (.iadd, 1) := by decide +kernel
theorem dX8_mendedBy_35 : decode cX8_mendedBy 35 = .ok (.istore_n 2, 1) := by decide +kernel
theorem dX8_mendedBy_36 : decode cX8_mendedBy 36 = .ok (.iinc 3 1, 3) := by decide +kernel
theorem dX8_mendedBy_39 : decode cX8_mendedBy 39 = .ok (.goto (-35), 3) := by decide +kernel
theorem dX8_mendedBy_42 : decode cX8_mendedBy 42 = .ok (.iload_n 2, 1) := by decide +kernel
theorem dX8_mendedBy_43 : decode cX8_mendedBy 43 = .ok (.ireturn, 1) := by decide +kernel
set_option maxRecDepth 20000 in
theorem ggX8_mended_X8_isWeight : GoodIn wsX8_mended wsX8_isWeight := goodIn_r _ [5, 6, 7, 8, 4, 9, 28, 29, 30, 31, 32, 33, 34, 35, 36, 37, 38, 39, 40] (by decide +kernel) (by decide +kernel)
set_option maxRecDepth 20000 in
theorem gX8_mended_X8_isWeight : GoodIn wsX8_mended (wsV RX8 62 RX8 yX8_isWeight wsX8_isWeight) := goodIn_app (goodIn_of _ (by decide +kernel)) ggX8_mended_X8_isWeight
set_option maxRecDepth 20000 in
theorem ggX8_mended_X8_refused : GoodIn wsX8_mended wsX8_refused := goodIn_r _ [13, 14, 28, 29, 30, 31, 32, 33, 34, 35, 36, 37, 38, 39, 40] (by decide +kernel) (by decide +kernel)
set_option maxRecDepth 20000 in
theorem gX8_mended_X8_refused : GoodIn wsX8_mended (wsV RX8 44 RX8 yX8_refused wsX8_refused) := goodIn_app (goodIn_of _ (by decide +kernel)) ggX8_mended_X8_refused
set_option maxRecDepth 20000 in
theorem ggX8_mended_X8_mendedBy : GoodIn wsX8_mended wsX8_mendedBy := goodIn_r _ [18, 19, 20, 21, 4, 22, 23, 24, 6, 25, 26, 27, 28, 29, 30, 31, 32, 33, 34, 35, 36, 37, 38, 39, 40] (by decide +kernel) (by decide +kernel)
set_option maxRecDepth 20000 in
theorem gX8_mended_X8_mendedBy : GoodIn wsX8_mended (wsV RX8 101 RX8 yX8_mendedBy wsX8_mendedBy) := goodIn_app (goodIn_of _ (by decide +kernel)) ggX8_mended_X8_mendedBy
theorem dX8_mended_0 : decode cX8_mended 0 = .ok (.aload_n 0, 1) := by decide +kernel
theorem dX8_mended_1 : decode cX8_mended 1 = .ok (.aload_n 0, 1) := by decide +kernel
theorem dX8_mended_2 : decode cX8_mended 2 = .ok (.iload_n 1, 1) := by decide +kernel
theorem dX8_mended_3 : decode cX8_mended 3 = .ok (.invokevirtual 62, 3) := by decide +kernel
theorem dX8_mended_6 : decode cX8_mended 6 = .ok (.ifCond .eq 7, 3) := by decide +kernel
theorem dX8_mended_9 : decode cX8_mended 9 = .ok (.iconst 0, 1) := by decide +kernel
theorem dX8_mended_10 : decode cX8_mended 10 = .ok (.goto 4, 3) := by decide +kernel
theorem dX8_mended_13 : decode cX8_mended 13 = .ok (.iconst 1, 1) := by decide +kernel
theorem dX8_mended_14 : decode cX8_mended 14 = .ok (.invokevirtual 44, 3) := by decide +kernel
theorem dX8_mended_17 : decode cX8_mended 17 = .ok (.ifCond .eq 7, 3) := by decide +kernel
theorem dX8_mended_20 : decode cX8_mended 20 = .ok (.iconst 0, 1) := by decide +kernel
theorem dX8_mended_21 : decode cX8_mended 21 = .ok (.goto 8, 3) := by decide +kernel
theorem dX8_mended_24 : decode cX8_mended 24 = .ok (.aload_n 0, 1) := by decide +kernel
theorem dX8_mended_25 : decode cX8_mended 25 = .ok (.iload_n 1, 1) := by decide +kernel
theorem dX8_mended_26 : decode cX8_mended 26 = .ok (.invokevirtual 101, 3) := by decide +kernel
theorem dX8_mended_29 : decode cX8_mended 29 = .ok (.ireturn, 1) := by decide +kernel
set_option maxRecDepth 20000 in
theorem ggX8_changeIn_X8_idealOf : GoodIn wsX8_changeIn wsX8_idealOf := goodIn_r _ [6, 7, 8, 9, 5, 10, 11, 12, 1, 13, 14, 15, 16, 17, 18, 19, 20, 21, 22, 23, 24, 25, 26, 27, 28] (by decide +kernel) (by decide +kernel)
set_option maxRecDepth 20000 in
theorem gX8_changeIn_X8_idealOf : GoodIn wsX8_changeIn (wsV RX8 92 RX8 yX8_idealOf wsX8_idealOf) := goodIn_app (goodIn_of _ (by decide +kernel)) ggX8_changeIn_X8_idealOf
set_option maxRecDepth 20000 in
theorem ggX8_changeIn_X8_held : GoodIn wsX8_changeIn wsX8_held := goodIn_r _ [15] (by decide +kernel) (by decide +kernel)
set_option maxRecDepth 20000 in
theorem gX8_changeIn_X8_held : GoodIn wsX8_changeIn (va_wsS RX8 56 yX8_held wsX8_held) := goodIn_app (goodIn_of _ (by decide +kernel)) ggX8_changeIn_X8_held
theorem dX8_changeIn_0 : decode cX8_changeIn 0 = .ok (.aload_n 0, 1) := by decide +kernel
theorem dX8_changeIn_1 : decode cX8_changeIn 1 = .ok (.aload_n 0, 1) := by decide +kernel
theorem dX8_changeIn_2 : decode cX8_changeIn 2 = .ok (.getfield 7, 3) := by decide +kernel
theorem dX8_changeIn_5 : decode cX8_changeIn 5 = .ok (.iconst 0, 1) := by decide +kernel
theorem dX8_changeIn_6 : decode cX8_changeIn 6 = .ok (.iaload, 1) := by decide +kernel
theorem dX8_changeIn_7 : decode cX8_changeIn 7 = .ok (.invokevirtual 92, 3) := by decide +kernel
theorem dX8_changeIn_10 : decode cX8_changeIn 10 = .ok (.istore_n 1, 1) := by decide +kernel
theorem dX8_changeIn_11 : decode cX8_changeIn 11 = .ok (.aload_n 0, 1) := by decide +kernel
theorem dX8_changeIn_12 : decode cX8_changeIn 12 = .ok (.getfield 7, 3) := by decide +kernel
theorem dX8_changeIn_15 : decode cX8_changeIn 15 = .ok (.iconst 0, 1) := by decide +kernel
theorem dX8_changeIn_16 : decode cX8_changeIn 16 = .ok (.iaload, 1) := by decide +kernel
theorem dX8_changeIn_17 : decode cX8_changeIn 17 = .ok (.istore_n 2, 1) := by decide +kernel
theorem dX8_changeIn_18 : decode cX8_changeIn 18 = .ok (.iconst 1, 1) := by decide +kernel
theorem dX8_changeIn_19 : decode cX8_changeIn 19 = .ok (.istore_n 3, 1) := by decide +kernel
theorem dX8_changeIn_20 : decode cX8_changeIn 20 = .ok (.iload_n 3, 1) := by decide +kernel
theorem dX8_changeIn_21 : decode cX8_changeIn 21 = .ok (.sipush 200, 3) := by decide +kernel
theorem dX8_changeIn_24 : decode cX8_changeIn 24 = .ok (.if_icmp .gt 31, 3) := by decide +kernel
theorem dX8_changeIn_27 : decode cX8_changeIn 27 = .ok (.iload_n 2, 1) := by decide +kernel
theorem dX8_changeIn_28 : decode cX8_changeIn 28 = .ok (.aload_n 0, 1) := by decide +kernel
theorem dX8_changeIn_29 : decode cX8_changeIn 29 = .ok (.getfield 7, 3) := by decide +kernel
theorem dX8_changeIn_32 : decode cX8_changeIn 32 = .ok (.iconst 2, 1) := by decide +kernel
theorem dX8_changeIn_33 : decode cX8_changeIn 33 = .ok (.iaload, 1) := by decide +kernel
theorem dX8_changeIn_34 : decode cX8_changeIn 34 = .ok (.invokestatic 56, 3) := by decide +kernel
theorem dX8_changeIn_37 : decode cX8_changeIn 37 = .ok (.istore_n 2, 1) := by decide +kernel
theorem dX8_changeIn_38 : decode cX8_changeIn 38 = .ok (.aload_n 0, 1) := by decide +kernel
theorem dX8_changeIn_39 : decode cX8_changeIn 39 = .ok (.iload_n 2, 1) := by decide +kernel
theorem dX8_changeIn_40 : decode cX8_changeIn 40 = .ok (.invokevirtual 92, 3) := by decide +kernel
theorem dX8_changeIn_43 : decode cX8_changeIn 43 = .ok (.iload_n 1, 1) := by decide +kernel
theorem dX8_changeIn_44 : decode cX8_changeIn 44 = .ok (.if_icmp .eq 5, 3) := by decide +kernel
theorem dX8_changeIn_47 : decode cX8_changeIn 47 = .ok (.iload_n 3, 1) := by decide +kernel
theorem dX8_changeIn_48 : decode cX8_changeIn 48 = .ok (.ireturn, 1) := by decide +kernel
theorem dX8_changeIn_49 : decode cX8_changeIn 49 = .ok (.iinc 3 1, 3) := by decide +kernel
theorem dX8_changeIn_52 : decode cX8_changeIn 52 = .ok (.goto (-32), 3) := by decide +kernel
theorem dX8_changeIn_55 : decode cX8_changeIn 55 = .ok (.iconst (-1), 1) := by decide +kernel
theorem dX8_changeIn_56 : decode cX8_changeIn 56 = .ok (.ireturn, 1) := by decide +kernel
set_option maxRecDepth 20000 in
theorem ggX8_ticksToChange_X8_changeIn : GoodIn wsX8_ticksToChange wsX8_changeIn := goodIn_r _ [6, 7, 8, 9, 10, 5, 11, 12, 13, 14, 15, 16, 17, 18, 19, 20, 21, 22, 23, 24, 25, 26, 27, 28, 29, 30, 31, 32, 33] (by decide +kernel) (by decide +kernel)
set_option maxRecDepth 20000 in
theorem gX8_ticksToChange_X8_changeIn : GoodIn wsX8_ticksToChange (wsV RX8 104 RX8 yX8_changeIn wsX8_changeIn) := goodIn_app (goodIn_of _ (by decide +kernel)) ggX8_ticksToChange_X8_changeIn
theorem dX8_ticksToChange_0 : decode cX8_ticksToChange 0 = .ok (.aload_n 0, 1) := by decide +kernel
theorem dX8_ticksToChange_1 : decode cX8_ticksToChange 1 = .ok (.iconst 0, 1) := by decide +kernel
theorem dX8_ticksToChange_2 : decode cX8_ticksToChange 2 = .ok (.putfield 29, 3) := by decide +kernel
theorem dX8_ticksToChange_5 : decode cX8_ticksToChange 5 = .ok (.aload_n 0, 1) := by decide +kernel
theorem dX8_ticksToChange_6 : decode cX8_ticksToChange 6 = .ok (.invokevirtual 104, 3) := by decide +kernel
theorem dX8_ticksToChange_9 : decode cX8_ticksToChange 9 = .ok (.ireturn, 1) := by decide +kernel
set_option maxRecDepth 20000 in
theorem ggX8_ticksToSettle_X8_in : GoodIn wsX8_ticksToSettle wsX8_in := goodIn_r _ [6] (by decide +kernel) (by decide +kernel)
set_option maxRecDepth 20000 in
theorem gX8_ticksToSettle_X8_in : GoodIn wsX8_ticksToSettle (va_wsS RX8 33 yX8_in wsX8_in) := goodIn_app (goodIn_of _ (by decide +kernel)) ggX8_ticksToSettle_X8_in
set_option maxRecDepth 20000 in
theorem ggX8_ticksToSettle_X8_refused : GoodIn wsX8_ticksToSettle wsX8_refused := goodIn_r _ [10, 11, 16, 17, 18, 19, 20, 21, 22, 23, 24, 25, 26, 27, 28] (by decide +kernel) (by decide +kernel)
set_option maxRecDepth 20000 in
theorem gX8_ticksToSettle_X8_refused : GoodIn wsX8_ticksToSettle (wsV RX8 44 RX8 yX8_refused wsX8_refused) := goodIn_app (goodIn_of _ (by decide +kernel)) ggX8_ticksToSettle_X8_refused
set_option maxRecDepth 20000 in
theorem ggX8_ticksToSettle_X8_sampled : GoodIn wsX8_ticksToSettle wsX8_sampled := goodIn_r _ [15, 2, 16, 17, 18, 19, 20, 21, 22, 23, 24, 25, 26, 27, 28] (by decide +kernel) (by decide +kernel)
set_option maxRecDepth 20000 in
theorem gX8_ticksToSettle_X8_sampled : GoodIn wsX8_ticksToSettle (wsV RX8 52 RX8 yX8_sampled wsX8_sampled) := goodIn_app (goodIn_of _ (by decide +kernel)) ggX8_ticksToSettle_X8_sampled
theorem dX8_ticksToSettle_0 : decode cX8_ticksToSettle 0 = .ok (.aload_n 0, 1) := by decide +kernel
theorem dX8_ticksToSettle_1 : decode cX8_ticksToSettle 1 = .ok (.iload_n 1, 1) := by decide +kernel
theorem dX8_ticksToSettle_2 : decode cX8_ticksToSettle 2 = .ok (.iconst 0, 1) := by decide +kernel
theorem dX8_ticksToSettle_3 : decode cX8_ticksToSettle 3 = .ok (.ldc 48, 2) := by decide +kernel
theorem dX8_ticksToSettle_5 : decode cX8_ticksToSettle 5 = .ok (.invokestatic 33, 3) := by decide +kernel
theorem dX8_ticksToSettle_8 : decode cX8_ticksToSettle 8 = .ok (.ifCond .eq 7, 3) := by decide +kernel
theorem dX8_ticksToSettle_11 : decode cX8_ticksToSettle 11 = .ok (.iconst 0, 1) := by decide +kernel
theorem dX8_ticksToSettle_12 : decode cX8_ticksToSettle 12 = .ok (.goto 4, 3) := by decide +kernel
theorem dX8_ticksToSettle_15 : decode cX8_ticksToSettle 15 = .ok (.iconst 1, 1) := by decide +kernel
theorem dX8_ticksToSettle_16 : decode cX8_ticksToSettle 16 = .ok (.invokevirtual 44, 3) := by decide +kernel
theorem dX8_ticksToSettle_19 : decode cX8_ticksToSettle 19 = .ok (.ifCond .eq 5, 3) := by decide +kernel
theorem dX8_ticksToSettle_22 : decode cX8_ticksToSettle 22 = .ok (.iconst 0, 1) := by decide +kernel
theorem dX8_ticksToSettle_23 : decode cX8_ticksToSettle 23 = .ok (.ireturn, 1) := by decide +kernel
theorem dX8_ticksToSettle_24 : decode cX8_ticksToSettle 24 = .ok (.aload_n 0, 1) := by decide +kernel
theorem dX8_ticksToSettle_25 : decode cX8_ticksToSettle 25 = .ok (.getfield 7, 3) := by decide +kernel
theorem dX8_ticksToSettle_28 : decode cX8_ticksToSettle 28 = .ok (.iconst 0, 1) := by decide +kernel
theorem dX8_ticksToSettle_29 : decode cX8_ticksToSettle 29 = .ok (.iaload, 1) := by decide +kernel
theorem dX8_ticksToSettle_30 : decode cX8_ticksToSettle 30 = .ok (.istore_n 2, 1) := by decide +kernel
theorem dX8_ticksToSettle_31 : decode cX8_ticksToSettle 31 = .ok (.iconst 0, 1) := by decide +kernel
theorem dX8_ticksToSettle_32 : decode cX8_ticksToSettle 32 = .ok (.istore_n 3, 1) := by decide +kernel
theorem dX8_ticksToSettle_33 : decode cX8_ticksToSettle 33 = .ok (.iload_n 2, 1) := by decide +kernel
theorem dX8_ticksToSettle_34 : decode cX8_ticksToSettle 34 = .ok (.iload_n 1, 1) := by decide +kernel
theorem dX8_ticksToSettle_35 : decode cX8_ticksToSettle 35 = .ok (.isub, 1) := by decide +kernel
theorem dX8_ticksToSettle_36 : decode cX8_ticksToSettle 36 = .ok (.bipush (-15), 2) := by decide +kernel
theorem dX8_ticksToSettle_38 : decode cX8_ticksToSettle 38 = .ok (.bipush 15, 2) := by decide +kernel
theorem dX8_ticksToSettle_40 : decode cX8_ticksToSettle 40 = .ok (.invokestatic 33, 3) := by decide +kernel
theorem dX8_ticksToSettle_43 : decode cX8_ticksToSettle 43 = .ok (.ifCond .ne 16, 3) := by decide +kernel
theorem dX8_ticksToSettle_46 : decode cX8_ticksToSettle 46 = .ok (.aload_n 0, 1) := by decide +kernel
theorem dX8_ticksToSettle_47 : decode cX8_ticksToSettle 47 = .ok (.iload_n 2, 1) := by decide +kernel
theorem dX8_ticksToSettle_48 : decode cX8_ticksToSettle 48 = .ok (.iload_n 1, 1) := by decide +kernel
theorem dX8_ticksToSettle_49 : decode cX8_ticksToSettle 49 = .ok (.invokevirtual 52, 3) := by decide +kernel
theorem dX8_ticksToSettle_52 : decode cX8_ticksToSettle 52 = .ok (.istore_n 2, 1) := by decide +kernel
theorem dX8_ticksToSettle_53 : decode cX8_ticksToSettle 53 = .ok (.iinc 3 1, 3) := by decide +kernel
theorem dX8_ticksToSettle_56 : decode cX8_ticksToSettle 56 = .ok (.goto (-23), 3) := by decide +kernel
theorem dX8_ticksToSettle_59 : decode cX8_ticksToSettle 59 = .ok (.iload_n 3, 1) := by decide +kernel
theorem dX8_ticksToSettle_60 : decode cX8_ticksToSettle 60 = .ok (.ireturn, 1) := by decide +kernel
set_option maxRecDepth 20000 in
theorem ggX8_append_X8_in : GoodIn wsX8_append wsX8_in := goodIn_r _ [6] (by decide +kernel) (by decide +kernel)
set_option maxRecDepth 20000 in
theorem gX8_append_X8_in : GoodIn wsX8_append (va_wsS RX8 33 yX8_in wsX8_in) := goodIn_app (goodIn_of _ (by decide +kernel)) ggX8_append_X8_in
set_option maxRecDepth 20000 in
theorem ggX8_append_X8_refused : GoodIn wsX8_append wsX8_refused := goodIn_r _ [10, 11, 12, 13, 14, 15, 16, 17, 18, 19, 20, 21, 22, 23, 24] (by decide +kernel) (by decide +kernel)
set_option maxRecDepth 20000 in
theorem gX8_append_X8_refused : GoodIn wsX8_append (wsV RX8 44 RX8 yX8_refused wsX8_refused) := goodIn_app (goodIn_of _ (by decide +kernel)) ggX8_append_X8_refused
theorem dX8_append_0 : decode cX8_append 0 = .ok (.aload_n 0, 1) := by decide +kernel
theorem dX8_append_1 : decode cX8_append 1 = .ok (.iload_n 1, 1) := by decide +kernel
theorem dX8_append_2 : decode cX8_append 2 = .ok (.bipush 33, 2) := by decide +kernel
theorem dX8_append_4 : decode cX8_append 4 = .ok (.bipush 126, 2) := by decide +kernel
theorem dX8_append_6 : decode cX8_append 6 = .ok (.invokestatic 33, 3) := by decide +kernel
theorem dX8_append_9 : decode cX8_append 9 = .ok (.ifCond .ne 7, 3) := by decide +kernel
theorem dX8_append_12 : decode cX8_append 12 = .ok (.iconst 1, 1) := by decide +kernel
theorem dX8_append_13 : decode cX8_append 13 = .ok (.goto 17, 3) := by decide +kernel
theorem dX8_append_16 : decode cX8_append 16 = .ok (.aload_n 0, 1) := by decide +kernel
theorem dX8_append_17 : decode cX8_append 17 = .ok (.getfield 107, 3) := by decide +kernel
theorem dX8_append_20 : decode cX8_append 20 = .ok (.bipush 60, 2) := by decide +kernel
theorem dX8_append_22 : decode cX8_append 22 = .ok (.if_icmp .ne 7, 3) := by decide +kernel
theorem dX8_append_25 : decode cX8_append 25 = .ok (.iconst 2, 1) := by decide +kernel
theorem dX8_append_26 : decode cX8_append 26 = .ok (.goto 4, 3) := by decide +kernel
theorem dX8_append_29 : decode cX8_append 29 = .ok (.iconst 0, 1) := by decide +kernel
theorem dX8_append_30 : decode cX8_append 30 = .ok (.invokevirtual 44, 3) := by decide +kernel
theorem dX8_append_33 : decode cX8_append 33 = .ok (.ifCond .eq 5, 3) := by decide +kernel
theorem dX8_append_36 : decode cX8_append 36 = .ok (.iconst 0, 1) := by decide +kernel
theorem dX8_append_37 : decode cX8_append 37 = .ok (.ireturn, 1) := by decide +kernel
theorem dX8_append_38 : decode cX8_append 38 = .ok (.aload_n 0, 1) := by decide +kernel
theorem dX8_append_39 : decode cX8_append 39 = .ok (.getfield 16, 3) := by decide +kernel
theorem dX8_append_42 : decode cX8_append 42 = .ok (.aload_n 0, 1) := by decide +kernel
theorem dX8_append_43 : decode cX8_append 43 = .ok (.getfield 107, 3) := by decide +kernel
theorem dX8_append_46 : decode cX8_append 46 = .ok (.iload_n 1, 1) := by decide +kernel
theorem dX8_append_47 : decode cX8_append 47 = .ok (.iastore, 1) := by decide +kernel
theorem dX8_append_48 : decode cX8_append 48 = .ok (.aload_n 0, 1) := by decide +kernel
theorem dX8_append_49 : decode cX8_append 49 = .ok (.dup, 1) := by decide +kernel
theorem dX8_append_50 : decode cX8_append 50 = .ok (.getfield 107, 3) := by decide +kernel
theorem dX8_append_53 : decode cX8_append 53 = .ok (.iconst 1, 1) := by decide +kernel
theorem dX8_append_54 : decode cX8_append 54 = .ok (.iadd, 1) := by decide +kernel
theorem dX8_append_55 : decode cX8_append 55 = .ok (.putfield 107, 3) := by decide +kernel
theorem dX8_append_58 : decode cX8_append 58 = .ok (.aload_n 0, 1) := by decide +kernel
theorem dX8_append_59 : decode cX8_append 59 = .ok (.getfield 107, 3) := by decide +kernel
theorem dX8_append_62 : decode cX8_append 62 = .ok (.ireturn, 1) := by decide +kernel
theorem dX8_clearText_0 : decode cX8_clearText 0 = .ok (.aload_n 0, 1) := by decide +kernel
theorem dX8_clearText_1 : decode cX8_clearText 1 = .ok (.iconst 0, 1) := by decide +kernel
theorem dX8_clearText_2 : decode cX8_clearText 2 = .ok (.putfield 29, 3) := by decide +kernel
theorem dX8_clearText_5 : decode cX8_clearText 5 = .ok (.aload_n 0, 1) := by decide +kernel
theorem dX8_clearText_6 : decode cX8_clearText 6 = .ok (.getfield 107, 3) := by decide +kernel
theorem dX8_clearText_9 : decode cX8_clearText 9 = .ok (.istore_n 1, 1) := by decide +kernel
theorem dX8_clearText_10 : decode cX8_clearText 10 = .ok (.aload_n 0, 1) := by decide +kernel
theorem dX8_clearText_11 : decode cX8_clearText 11 = .ok (.iconst 0, 1) := by decide +kernel
theorem dX8_clearText_12 : decode cX8_clearText 12 = .ok (.putfield 107, 3) := by decide +kernel
theorem dX8_clearText_15 : decode cX8_clearText 15 = .ok (.iload_n 1, 1) := by decide +kernel
theorem dX8_clearText_16 : decode cX8_clearText 16 = .ok (.ireturn, 1) := by decide +kernel
set_option maxRecDepth 20000 in
theorem ggX8_sees_X8_in : GoodIn wsX8_sees wsX8_in := goodIn_r _ [7] (by decide +kernel) (by decide +kernel)
set_option maxRecDepth 20000 in
theorem gX8_sees_X8_in : GoodIn wsX8_sees (va_wsS RX8 33 yX8_in wsX8_in) := goodIn_app (goodIn_of _ (by decide +kernel)) ggX8_sees_X8_in
theorem dX8_sees_0 : decode cX8_sees 0 = .ok (.aload_n 0, 1) := by decide +kernel
theorem dX8_sees_1 : decode cX8_sees 1 = .ok (.getfield 110, 3) := by decide +kernel
theorem dX8_sees_4 : decode cX8_sees 4 = .ok (.aload_n 0, 1) := by decide +kernel
theorem dX8_sees_5 : decode cX8_sees 5 = .ok (.getfield 107, 3) := by decide +kernel
theorem dX8_sees_8 : decode cX8_sees 8 = .ok (.if_icmp .ge 24, 3) := by decide +kernel
