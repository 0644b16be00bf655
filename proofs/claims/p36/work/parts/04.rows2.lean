theorem dX7_sortWeights_22 : decode cX7_sortWeights 22 = .ok (.aload_n 0, 1) := by decide +kernel
theorem dX7_sortWeights_23 : decode cX7_sortWeights 23 = .ok (.getfield 10, 3) := by decide +kernel
theorem dX7_sortWeights_26 : decode cX7_sortWeights 26 = .ok (.getfield 85, 3) := by decide +kernel
theorem dX7_sortWeights_29 : decode cX7_sortWeights 29 = .ok (.invokevirtual 118, 3) := by decide +kernel
theorem dX7_sortWeights_32 : decode cX7_sortWeights 32 = .ok (.iload_n 1, 1) := by decide +kernel
theorem dX7_sortWeights_33 : decode cX7_sortWeights 33 = .ok (.ireturn, 1) := by decide +kernel
theorem dX7_weights_0 : decode cX7_weights 0 = .ok (.aload_n 0, 1) := by decide +kernel
theorem dX7_weights_1 : decode cX7_weights 1 = .ok (.getfield 10, 3) := by decide +kernel
theorem dX7_weights_4 : decode cX7_weights 4 = .ok (.getfield 85, 3) := by decide +kernel
theorem dX7_weights_7 : decode cX7_weights 7 = .ok (.getfield 89, 3) := by decide +kernel
theorem dX7_weights_10 : decode cX7_weights 10 = .ok (.ireturn, 1) := by decide +kernel
set_option maxRecDepth 20000 in
theorem ggX7_weight_X7_requireNumber : GoodIn wsX7_weight wsX7_requireNumber := goodIn_ca (goodIn_r _ [8, 9, 10] (by decide +kernel) (by decide +kernel)) (goodIn_sub (fun _ h => List.mem_cons_of_mem _ (List.mem_append_right _ h)) (by decide +kernel))
set_option maxRecDepth 20000 in
theorem gX7_weight_X7_requireNumber : GoodIn wsX7_weight (va_wsS RX7 74 yX7_requireNumber wsX7_requireNumber) := goodIn_app (goodIn_of _ (by decide +kernel)) ggX7_weight_X7_requireNumber
theorem dX7_weight_0 : decode cX7_weight 0 = .ok (.iload_n 1, 1) := by decide +kernel
theorem dX7_weight_1 : decode cX7_weight 1 = .ok (.aload_n 0, 1) := by decide +kernel
theorem dX7_weight_2 : decode cX7_weight 2 = .ok (.getfield 10, 3) := by decide +kernel
theorem dX7_weight_5 : decode cX7_weight 5 = .ok (.getfield 85, 3) := by decide +kernel
theorem dX7_weight_8 : decode cX7_weight 8 = .ok (.getfield 89, 3) := by decide +kernel
theorem dX7_weight_11 : decode cX7_weight 11 = .ok (.invokestatic 74, 3) := by decide +kernel
theorem dX7_weight_14 : decode cX7_weight 14 = .ok (.aload_n 0, 1) := by decide +kernel
theorem dX7_weight_15 : decode cX7_weight 15 = .ok (.getfield 10, 3) := by decide +kernel
theorem dX7_weight_18 : decode cX7_weight 18 = .ok (.getfield 85, 3) := by decide +kernel
theorem dX7_weight_21 : decode cX7_weight 21 = .ok (.getfield 94, 3) := by decide +kernel
theorem dX7_weight_24 : decode cX7_weight 24 = .ok (.iload_n 1, 1) := by decide +kernel
theorem dX7_weight_25 : decode cX7_weight 25 = .ok (.iaload, 1) := by decide +kernel
theorem dX7_weight_26 : decode cX7_weight 26 = .ok (.ireturn, 1) := by decide +kernel
set_option maxRecDepth 20000 in
theorem ggX7_total_X6_sum : GoodIn wsX7_total wsX6_sum := goodIn_r _ [7, 8, 9, 22, 23] (by decide +kernel) (by decide +kernel)
set_option maxRecDepth 20000 in
theorem gX7_total_X6_sum : GoodIn wsX7_total (wsV RX7 121 RX6 yX6_sum wsX6_sum) := goodIn_app (goodIn_of _ (by decide +kernel)) ggX7_total_X6_sum
theorem dX7_total_0 : decode cX7_total 0 = .ok (.aload_n 0, 1) := by decide +kernel
theorem dX7_total_1 : decode cX7_total 1 = .ok (.getfield 10, 3) := by decide +kernel
theorem dX7_total_4 : decode cX7_total 4 = .ok (.getfield 85, 3) := by decide +kernel
theorem dX7_total_7 : decode cX7_total 7 = .ok (.invokevirtual 121, 3) := by decide +kernel
theorem dX7_total_10 : decode cX7_total 10 = .ok (.ireturn, 1) := by decide +kernel
set_option maxRecDepth 20000 in
theorem ggX7_convert_X1_push : GoodIn wsX7_convert wsX1_push := goodIn_r _ [14, 15, 16, 17, 18, 19, 20, 21, 22, 23, 24, 25, 26, 27, 28, 29, 30, 31, 32, 33, 34, 35, 36, 37, 38, 39, 40, 41, 42, 43, 44, 45, 46, 47, 48, 49, 50, 51, 52, 53, 54, 97, 98, 99, 87, 88, 89, 90, 91, 92, 93, 100, 101, 102, 103, 104, 105] (by decide +kernel) (by decide +kernel)
set_option maxRecDepth 20000 in
theorem gX7_convert_X1_push : GoodIn wsX7_convert (wsV RX7 49 RX1 yX1_push wsX1_push) := goodIn_app (goodIn_of _ (by decide +kernel)) ggX7_convert_X1_push
set_option maxRecDepth 20000 in
theorem ggX7_convert_X7_weighNow : GoodIn wsX7_convert wsX7_weighNow := goodIn_r _ [59, 4, 2, 60, 3, 61, 62, 6, 63, 64, 65, 66, 67, 68, 69, 70, 71, 72, 73, 58, 74, 75, 76, 82, 83, 84, 85, 86, 87, 88, 89, 90, 91, 92, 93, 94, 95, 96, 100, 101] (by decide +kernel) (by decide +kernel)
set_option maxRecDepth 20000 in
theorem gX7_convert_X7_weighNow : GoodIn wsX7_convert (wsV RX7 124 RX7 yX7_weighNow wsX7_weighNow) := goodIn_app (goodIn_of _ (by decide +kernel)) ggX7_convert_X7_weighNow
set_option maxRecDepth 20000 in
theorem ggX7_convert_X0_add : GoodIn wsX7_convert wsX0_add := goodIn_r _ [80, 50, 52, 53, 54, 81, 19, 20, 21, 102, 103, 104, 105] (by decide +kernel) (by decide +kernel)
set_option maxRecDepth 20000 in
theorem gX7_convert_X0_add : GoodIn wsX7_convert (wsV RX7 138 RX0 yX0_add wsX0_add) := goodIn_app (goodIn_of _ (by decide +kernel)) ggX7_convert_X0_add
theorem dX7_convert_0 : decode cX7_convert 0 = .ok (.aload_n 0, 1) := by decide +kernel
theorem dX7_convert_1 : decode cX7_convert 1 = .ok (.getfield 19, 3) := by decide +kernel
theorem dX7_convert_4 : decode cX7_convert 4 = .ok (.aload_n 0, 1) := by decide +kernel
theorem dX7_convert_5 : decode cX7_convert 5 = .ok (.getfield 10, 3) := by decide +kernel
theorem dX7_convert_8 : decode cX7_convert 8 = .ok (.invokevirtual 49, 3) := by decide +kernel
theorem dX7_convert_11 : decode cX7_convert 11 = .ok (.aload_n 0, 1) := by decide +kernel
theorem dX7_convert_12 : decode cX7_convert 12 = .ok (.getfield 10, 3) := by decide +kernel
theorem dX7_convert_15 : decode cX7_convert 15 = .ok (.getfield 53, 3) := by decide +kernel
theorem dX7_convert_18 : decode cX7_convert 18 = .ok (.istore_n 1, 1) := by decide +kernel
theorem dX7_convert_19 : decode cX7_convert 19 = .ok (.aload_n 0, 1) := by decide +kernel
theorem dX7_convert_20 : decode cX7_convert 20 = .ok (.invokevirtual 124, 3) := by decide +kernel
theorem dX7_convert_23 : decode cX7_convert 23 = .ok (.aload_n 0, 1) := by decide +kernel
theorem dX7_convert_24 : decode cX7_convert 24 = .ok (.getfield 10, 3) := by decide +kernel
theorem dX7_convert_27 : decode cX7_convert 27 = .ok (.aload_n 0, 1) := by decide +kernel
theorem dX7_convert_28 : decode cX7_convert 28 = .ok (.getfield 33, 3) := by decide +kernel
theorem dX7_convert_31 : decode cX7_convert 31 = .ok (.getfield 127, 3) := by decide +kernel
theorem dX7_convert_34 : decode cX7_convert 34 = .ok (.putfield 53, 3) := by decide +kernel
theorem dX7_convert_37 : decode cX7_convert 37 = .ok (.aload_n 0, 1) := by decide +kernel
theorem dX7_convert_38 : decode cX7_convert 38 = .ok (.getfield 10, 3) := by decide +kernel
theorem dX7_convert_41 : decode cX7_convert 41 = .ok (.iconst 0, 1) := by decide +kernel
theorem dX7_convert_42 : decode cX7_convert 42 = .ok (.putfield 78, 3) := by decide +kernel
theorem dX7_convert_45 : decode cX7_convert 45 = .ok (.aload_n 0, 1) := by decide +kernel
theorem dX7_convert_46 : decode cX7_convert 46 = .ok (.getfield 10, 3) := by decide +kernel
theorem dX7_convert_49 : decode cX7_convert 49 = .ok (.getfield 128, 3) := by decide +kernel
theorem dX7_convert_52 : decode cX7_convert 52 = .ok (.iload_n 1, 1) := by decide +kernel
theorem dX7_convert_53 : decode cX7_convert 53 = .ok (.aload_n 0, 1) := by decide +kernel
theorem dX7_convert_54 : decode cX7_convert 54 = .ok (.getfield 33, 3) := by decide +kernel
theorem dX7_convert_57 : decode cX7_convert 57 = .ok (.getfield 132, 3) := by decide +kernel
theorem dX7_convert_60 : decode cX7_convert 60 = .ok (.aload_n 0, 1) := by decide +kernel
theorem dX7_convert_61 : decode cX7_convert 61 = .ok (.getfield 33, 3) := by decide +kernel
theorem dX7_convert_64 : decode cX7_convert 64 = .ok (.getfield 135, 3) := by decide +kernel
theorem dX7_convert_67 : decode cX7_convert 67 = .ok (.invokevirtual 138, 3) := by decide +kernel
theorem dX7_convert_70 : decode cX7_convert 70 = .ok (.aload_n 0, 1) := by decide +kernel
theorem dX7_convert_71 : decode cX7_convert 71 = .ok (.getfield 33, 3) := by decide +kernel
theorem dX7_convert_74 : decode cX7_convert 74 = .ok (.getfield 135, 3) := by decide +kernel
theorem dX7_convert_77 : decode cX7_convert 77 = .ok (.ireturn, 1) := by decide +kernel
theorem dX7_logged_0 : decode cX7_logged 0 = .ok (.aload_n 0, 1) := by decide +kernel
theorem dX7_logged_1 : decode cX7_logged 1 = .ok (.getfield 10, 3) := by decide +kernel
theorem dX7_logged_4 : decode cX7_logged 4 = .ok (.getfield 128, 3) := by decide +kernel
theorem dX7_logged_7 : decode cX7_logged 7 = .ok (.getfield 143, 3) := by decide +kernel
theorem dX7_logged_10 : decode cX7_logged 10 = .ok (.ireturn, 1) := by decide +kernel
set_option maxRecDepth 20000 in
theorem ggX7_code_X7_requireNumber : GoodIn wsX7_code wsX7_requireNumber := goodIn_ca (goodIn_r _ [8, 9, 10] (by decide +kernel) (by decide +kernel)) (goodIn_sub (fun _ h => List.mem_cons_of_mem _ (List.mem_append_right _ h)) (by decide +kernel))
set_option maxRecDepth 20000 in
theorem gX7_code_X7_requireNumber : GoodIn wsX7_code (va_wsS RX7 74 yX7_requireNumber wsX7_requireNumber) := goodIn_app (goodIn_of _ (by decide +kernel)) ggX7_code_X7_requireNumber
theorem dX7_code_0 : decode cX7_code 0 = .ok (.iload_n 1, 1) := by decide +kernel
theorem dX7_code_1 : decode cX7_code 1 = .ok (.aload_n 0, 1) := by decide +kernel
theorem dX7_code_2 : decode cX7_code 2 = .ok (.getfield 10, 3) := by decide +kernel
theorem dX7_code_5 : decode cX7_code 5 = .ok (.getfield 128, 3) := by decide +kernel
theorem dX7_code_8 : decode cX7_code 8 = .ok (.getfield 143, 3) := by decide +kernel
theorem dX7_code_11 : decode cX7_code 11 = .ok (.invokestatic 74, 3) := by decide +kernel
theorem dX7_code_14 : decode cX7_code 14 = .ok (.aload_n 0, 1) := by decide +kernel
theorem dX7_code_15 : decode cX7_code 15 = .ok (.getfield 10, 3) := by decide +kernel
theorem dX7_code_18 : decode cX7_code 18 = .ok (.getfield 128, 3) := by decide +kernel
theorem dX7_code_21 : decode cX7_code 21 = .ok (.getfield 144, 3) := by decide +kernel
theorem dX7_code_24 : decode cX7_code 24 = .ok (.iload_n 1, 1) := by decide +kernel
theorem dX7_code_25 : decode cX7_code 25 = .ok (.iaload, 1) := by decide +kernel
theorem dX7_code_26 : decode cX7_code 26 = .ok (.ireturn, 1) := by decide +kernel
set_option maxRecDepth 20000 in
theorem ggX7_kept_X7_requireNumber : GoodIn wsX7_kept wsX7_requireNumber := goodIn_ca (goodIn_r _ [8, 9, 10] (by decide +kernel) (by decide +kernel)) (goodIn_sub (fun _ h => List.mem_cons_of_mem _ (List.mem_append_right _ h)) (by decide +kernel))
set_option maxRecDepth 20000 in
theorem gX7_kept_X7_requireNumber : GoodIn wsX7_kept (va_wsS RX7 74 yX7_requireNumber wsX7_requireNumber) := goodIn_app (goodIn_of _ (by decide +kernel)) ggX7_kept_X7_requireNumber
theorem dX7_kept_0 : decode cX7_kept 0 = .ok (.iload_n 1, 1) := by decide +kernel
theorem dX7_kept_1 : decode cX7_kept 1 = .ok (.aload_n 0, 1) := by decide +kernel
theorem dX7_kept_2 : decode cX7_kept 2 = .ok (.getfield 10, 3) := by decide +kernel
theorem dX7_kept_5 : decode cX7_kept 5 = .ok (.getfield 128, 3) := by decide +kernel
theorem dX7_kept_8 : decode cX7_kept 8 = .ok (.getfield 143, 3) := by decide +kernel
theorem dX7_kept_11 : decode cX7_kept 11 = .ok (.invokestatic 74, 3) := by decide +kernel
theorem dX7_kept_14 : decode cX7_kept 14 = .ok (.aload_n 0, 1) := by decide +kernel
theorem dX7_kept_15 : decode cX7_kept 15 = .ok (.getfield 10, 3) := by decide +kernel
theorem dX7_kept_18 : decode cX7_kept 18 = .ok (.getfield 128, 3) := by decide +kernel
theorem dX7_kept_21 : decode cX7_kept 21 = .ok (.getfield 147, 3) := by decide +kernel
theorem dX7_kept_24 : decode cX7_kept 24 = .ok (.iload_n 1, 1) := by decide +kernel
theorem dX7_kept_25 : decode cX7_kept 25 = .ok (.iaload, 1) := by decide +kernel
theorem dX7_kept_26 : decode cX7_kept 26 = .ok (.ireturn, 1) := by decide +kernel
set_option maxRecDepth 20000 in
theorem ggX7_error_X7_requireNumber : GoodIn wsX7_error wsX7_requireNumber := goodIn_ca (goodIn_r _ [7, 8, 9] (by decide +kernel) (by decide +kernel)) (goodIn_sub (fun _ h => List.mem_cons_of_mem _ (List.mem_append_right _ h)) (by decide +kernel))
set_option maxRecDepth 20000 in
theorem gX7_error_X7_requireNumber : GoodIn wsX7_error (va_wsS RX7 74 yX7_requireNumber wsX7_requireNumber) := goodIn_app (goodIn_of _ (by decide +kernel)) ggX7_error_X7_requireNumber
set_option maxRecDepth 20000 in
theorem ggX7_error_X0_errorOf : GoodIn wsX7_error wsX0_errorOf := goodIn_r _ [14, 15, 16, 29, 30, 31, 32] (by decide +kernel) (by decide +kernel)
set_option maxRecDepth 20000 in
theorem gX7_error_X0_errorOf : GoodIn wsX7_error (wsV RX7 150 RX0 yX0_errorOf wsX0_errorOf) := goodIn_app (goodIn_of _ (by decide +kernel)) ggX7_error_X0_errorOf
theorem dX7_error_0 : decode cX7_error 0 = .ok (.iload_n 1, 1) := by decide +kernel
theorem dX7_error_1 : decode cX7_error 1 = .ok (.aload_n 0, 1) := by decide +kernel
theorem dX7_error_2 : decode cX7_error 2 = .ok (.getfield 10, 3) := by decide +kernel
theorem dX7_error_5 : decode cX7_error 5 = .ok (.getfield 128, 3) := by decide +kernel
theorem dX7_error_8 : decode cX7_error 8 = .ok (.getfield 143, 3) := by decide +kernel
theorem dX7_error_11 : decode cX7_error 11 = .ok (.invokestatic 74, 3) := by decide +kernel
theorem dX7_error_14 : decode cX7_error 14 = .ok (.aload_n 0, 1) := by decide +kernel
theorem dX7_error_15 : decode cX7_error 15 = .ok (.getfield 10, 3) := by decide +kernel
theorem dX7_error_18 : decode cX7_error 18 = .ok (.getfield 128, 3) := by decide +kernel
theorem dX7_error_21 : decode cX7_error 21 = .ok (.iload_n 1, 1) := by decide +kernel
theorem dX7_error_22 : decode cX7_error 22 = .ok (.invokevirtual 150, 3) := by decide +kernel
theorem dX7_error_25 : decode cX7_error 25 = .ok (.ireturn, 1) := by decide +kernel
set_option maxRecDepth 20000 in
theorem ggX7_meanError_X0_errorSum : GoodIn wsX7_meanError wsX0_errorSum := goodIn_r _ [8, 9, 10, 11, 12, 7, 13, 14, 15, 28, 29, 30, 31] (by decide +kernel) (by decide +kernel)
set_option maxRecDepth 20000 in
theorem gX7_meanError_X0_errorSum : GoodIn wsX7_meanError (wsV RX7 153 RX0 yX0_errorSum wsX0_errorSum) := goodIn_app (goodIn_of _ (by decide +kernel)) ggX7_meanError_X0_errorSum
theorem dX7_meanError_0 : decode cX7_meanError 0 = .ok (.aload_n 0, 1) := by decide +kernel
theorem dX7_meanError_1 : decode cX7_meanError 1 = .ok (.getfield 10, 3) := by decide +kernel
theorem dX7_meanError_4 : decode cX7_meanError 4 = .ok (.getfield 128, 3) := by decide +kernel
theorem dX7_meanError_7 : decode cX7_meanError 7 = .ok (.getfield 143, 3) := by decide +kernel
theorem dX7_meanError_10 : decode cX7_meanError 10 = .ok (.ifCond .ne 5, 3) := by decide +kernel
theorem dX7_meanError_13 : decode cX7_meanError 13 = .ok (.dconst 0, 1) := by decide +kernel
theorem dX7_meanError_14 : decode cX7_meanError 14 = .ok (.dreturn, 1) := by decide +kernel
theorem dX7_meanError_15 : decode cX7_meanError 15 = .ok (.aload_n 0, 1) := by decide +kernel
theorem dX7_meanError_16 : decode cX7_meanError 16 = .ok (.getfield 10, 3) := by decide +kernel
theorem dX7_meanError_19 : decode cX7_meanError 19 = .ok (.getfield 128, 3) := by decide +kernel
theorem dX7_meanError_22 : decode cX7_meanError 22 = .ok (.invokevirtual 153, 3) := by decide +kernel
theorem dX7_meanError_25 : decode cX7_meanError 25 = .ok (.i2d, 1) := by decide +kernel
theorem dX7_meanError_26 : decode cX7_meanError 26 = .ok (.aload_n 0, 1) := by decide +kernel
theorem dX7_meanError_27 : decode cX7_meanError 27 = .ok (.getfield 10, 3) := by decide +kernel
theorem dX7_meanError_30 : decode cX7_meanError 30 = .ok (.getfield 128, 3) := by decide +kernel
theorem dX7_meanError_33 : decode cX7_meanError 33 = .ok (.getfield 143, 3) := by decide +kernel
theorem dX7_meanError_36 : decode cX7_meanError 36 = .ok (.i2d, 1) := by decide +kernel
theorem dX7_meanError_37 : decode cX7_meanError 37 = .ok (.ddiv, 1) := by decide +kernel
theorem dX7_meanError_38 : decode cX7_meanError 38 = .ok (.dreturn, 1) := by decide +kernel
set_option maxRecDepth 20000 in
theorem ggX7_ideal_X7_requireArgument : GoodIn wsX7_ideal wsX7_requireArgument := goodIn_ca (goodIn_r _ [5, 6, 7] (by decide +kernel) (by decide +kernel)) (goodIn_sub (fun _ h => List.mem_cons_of_mem _ (List.mem_append_right _ h)) (by decide +kernel))
set_option maxRecDepth 20000 in
theorem gX7_ideal_X7_requireArgument : GoodIn wsX7_ideal (va_wsS RX7 45 yX7_requireArgument wsX7_requireArgument) := goodIn_app (goodIn_of _ (by decide +kernel)) ggX7_ideal_X7_requireArgument
set_option maxRecDepth 20000 in
theorem ggX7_ideal_X7_steadyCode : GoodIn wsX7_ideal wsX7_steadyCode := goodIn_r _ [11, 12, 13, 14, 15, 16, 17, 18, 19, 20, 21, 22, 23, 24, 25, 26, 4, 27, 28, 29, 30, 31, 32, 33, 34, 35, 36, 37, 38, 39, 40, 41, 42, 43, 44, 45, 46] (by decide +kernel) (by decide +kernel)
set_option maxRecDepth 20000 in
theorem gX7_ideal_X7_steadyCode : GoodIn wsX7_ideal (wsV RX7 156 RX7 yX7_steadyCode wsX7_steadyCode) := goodIn_app (goodIn_of _ (by decide +kernel)) ggX7_ideal_X7_steadyCode
theorem dX7_ideal_0 : decode cX7_ideal 0 = .ok (.iload_n 1, 1) := by decide +kernel
theorem dX7_ideal_1 : decode cX7_ideal 1 = .ok (.iconst 0, 1) := by decide +kernel
theorem dX7_ideal_2 : decode cX7_ideal 2 = .ok (.ldc 44, 2) := by decide +kernel
theorem dX7_ideal_4 : decode cX7_ideal 4 = .ok (.invokestatic 45, 3) := by decide +kernel
theorem dX7_ideal_7 : decode cX7_ideal 7 = .ok (.aload_n 0, 1) := by decide +kernel
theorem dX7_ideal_8 : decode cX7_ideal 8 = .ok (.iload_n 1, 1) := by decide +kernel
theorem dX7_ideal_9 : decode cX7_ideal 9 = .ok (.iconst 0, 1) := by decide +kernel
theorem dX7_ideal_10 : decode cX7_ideal 10 = .ok (.invokevirtual 156, 3) := by decide +kernel
theorem dX7_ideal_13 : decode cX7_ideal 13 = .ok (.ireturn, 1) := by decide +kernel
set_option maxRecDepth 20000 in
theorem ggX7_nextCode_X7_weighNow : GoodIn wsX7_nextCode wsX7_weighNow := goodIn_r _ [7, 1, 8, 9, 10, 11, 12, 13, 14, 15, 16, 17, 18, 19, 20, 21, 22, 23, 24, 6, 25, 26, 27, 28, 29, 30, 31, 32, 36, 37, 38, 39, 40, 41, 42, 33, 34, 35, 43, 44] (by decide +kernel) (by decide +kernel)
set_option maxRecDepth 20000 in
theorem gX7_nextCode_X7_weighNow : GoodIn wsX7_nextCode (wsV RX7 124 RX7 yX7_weighNow wsX7_weighNow) := goodIn_app (goodIn_of _ (by decide +kernel)) ggX7_nextCode_X7_weighNow
theorem dX7_nextCode_0 : decode cX7_nextCode 0 = .ok (.aload_n 0, 1) := by decide +kernel
theorem dX7_nextCode_1 : decode cX7_nextCode 1 = .ok (.invokevirtual 124, 3) := by decide +kernel
theorem dX7_nextCode_4 : decode cX7_nextCode 4 = .ok (.aload_n 0, 1) := by decide +kernel
theorem dX7_nextCode_5 : decode cX7_nextCode 5 = .ok (.getfield 33, 3) := by decide +kernel
theorem dX7_nextCode_8 : decode cX7_nextCode 8 = .ok (.getfield 135, 3) := by decide +kernel
theorem dX7_nextCode_11 : decode cX7_nextCode 11 = .ok (.ireturn, 1) := by decide +kernel
set_option maxRecDepth 20000 in
theorem ggX7_sums_X3_fill : GoodIn wsX7_sums wsX3_fill := goodIn_r _ [8, 9, 10, 11, 12, 13, 14, 7, 15, 39, 40, 41] (by decide +kernel) (by decide +kernel)
set_option maxRecDepth 20000 in
theorem gX7_sums_X3_fill : GoodIn wsX7_sums (wsV RX7 159 RX3 yX3_fill wsX3_fill) := goodIn_app (goodIn_of _ (by decide +kernel)) ggX7_sums_X3_fill
set_option maxRecDepth 20000 in
theorem ggX7_sums_X3_count : GoodIn wsX7_sums wsX3_count := goodIn_r _ [19, 9, 20, 21, 22, 23, 24, 25, 26, 39] (by decide +kernel) (by decide +kernel)
set_option maxRecDepth 20000 in
theorem gX7_sums_X3_count : GoodIn wsX7_sums (wsV RX7 163 RX3 yX3_count wsX3_count) := goodIn_app (goodIn_of _ (by decide +kernel)) ggX7_sums_X3_count
theorem dX7_sums_0 : decode cX7_sums 0 = .ok (.aload_n 0, 1) := by decide +kernel
theorem dX7_sums_1 : decode cX7_sums 1 = .ok (.getfield 40, 3) := by decide +kernel
theorem dX7_sums_4 : decode cX7_sums 4 = .ok (.aload_n 0, 1) := by decide +kernel
theorem dX7_sums_5 : decode cX7_sums 5 = .ok (.getfield 10, 3) := by decide +kernel
theorem dX7_sums_8 : decode cX7_sums 8 = .ok (.getfield 85, 3) := by decide +kernel
theorem dX7_sums_11 : decode cX7_sums 11 = .ok (.invokevirtual 159, 3) := by decide +kernel
theorem dX7_sums_14 : decode cX7_sums 14 = .ok (.aload_n 0, 1) := by decide +kernel
theorem dX7_sums_15 : decode cX7_sums 15 = .ok (.getfield 40, 3) := by decide +kernel
theorem dX7_sums_18 : decode cX7_sums 18 = .ok (.invokevirtual 163, 3) := by decide +kernel
theorem dX7_sums_21 : decode cX7_sums 21 = .ok (.ireturn, 1) := by decide +kernel
set_option maxRecDepth 20000 in
theorem ggX7_leastMissing_X3_fill : GoodIn wsX7_leastMissing wsX3_fill := goodIn_r _ [8, 9, 10, 11, 12, 13, 14, 7, 15, 32, 33, 34] (by decide +kernel) (by decide +kernel)
set_option maxRecDepth 20000 in
theorem gX7_leastMissing_X3_fill : GoodIn wsX7_leastMissing (wsV RX7 159 RX3 yX3_fill wsX3_fill) := goodIn_app (goodIn_of _ (by decide +kernel)) ggX7_leastMissing_X3_fill
set_option maxRecDepth 20000 in
theorem ggX7_leastMissing_X3_leastMissingSum : GoodIn wsX7_leastMissing wsX3_leastMissingSum := goodIn_r _ [19, 9, 32] (by decide +kernel) (by decide +kernel)
set_option maxRecDepth 20000 in
theorem gX7_leastMissing_X3_leastMissingSum : GoodIn wsX7_leastMissing (wsV RX7 165 RX3 yX3_leastMissingSum wsX3_leastMissingSum) := goodIn_app (goodIn_of _ (by decide +kernel)) ggX7_leastMissing_X3_leastMissingSum
theorem dX7_leastMissing_0 : decode cX7_leastMissing 0 = .ok (.aload_n 0, 1) := by decide +kernel
theorem dX7_leastMissing_1 : decode cX7_leastMissing 1 = .ok (.getfield 40, 3) := by decide +kernel
theorem dX7_leastMissing_4 : decode cX7_leastMissing 4 = .ok (.aload_n 0, 1) := by decide +kernel
theorem dX7_leastMissing_5 : decode cX7_leastMissing 5 = .ok (.getfield 10, 3) := by decide +kernel
theorem dX7_leastMissing_8 : decode cX7_leastMissing 8 = .ok (.getfield 85, 3) := by decide +kernel
theorem dX7_leastMissing_11 : decode cX7_leastMissing 11 = .ok (.invokevirtual 159, 3) := by decide +kernel
theorem dX7_leastMissing_14 : decode cX7_leastMissing 14 = .ok (.aload_n 0, 1) := by decide +kernel
theorem dX7_leastMissing_15 : decode cX7_leastMissing 15 = .ok (.getfield 40, 3) := by decide +kernel
theorem dX7_leastMissing_18 : decode cX7_leastMissing 18 = .ok (.invokevirtual 165, 3) := by decide +kernel
theorem dX7_leastMissing_21 : decode cX7_leastMissing 21 = .ok (.ireturn, 1) := by decide +kernel
set_option maxRecDepth 20000 in
theorem ggX7_mended_X7_requireNumber : GoodIn wsX7_mended wsX7_requireNumber := goodIn_ca (goodIn_r _ [7, 8, 9] (by decide +kernel) (by decide +kernel)) (goodIn_sub (fun _ h => List.mem_cons_of_mem _ (List.mem_append_right _ h)) (by decide +kernel))
set_option maxRecDepth 20000 in
theorem gX7_mended_X7_requireNumber : GoodIn wsX7_mended (va_wsS RX7 74 yX7_requireNumber wsX7_requireNumber) := goodIn_app (goodIn_of _ (by decide +kernel)) ggX7_mended_X7_requireNumber
set_option maxRecDepth 20000 in
theorem ggX7_mended_X7_steadyCode : GoodIn wsX7_mended wsX7_steadyCode := goodIn_r _ [13, 14, 1, 2, 15, 16, 17, 18, 19, 20, 21, 22, 23, 24, 25, 26, 6, 27, 28, 29, 30, 31, 32, 33, 34, 35, 36, 37, 38, 39, 40, 41, 44, 45, 46, 42, 43] (by decide +kernel) (by decide +kernel)
set_option maxRecDepth 20000 in
theorem gX7_mended_X7_steadyCode : GoodIn wsX7_mended (wsV RX7 156 RX7 yX7_steadyCode wsX7_steadyCode) := goodIn_app (goodIn_of _ (by decide +kernel)) ggX7_mended_X7_steadyCode
theorem dX7_mended_0 : decode cX7_mended 0 = .ok (.iload_n 1, 1) := by decide +kernel
theorem dX7_mended_1 : decode cX7_mended 1 = .ok (.aload_n 0, 1) := by decide +kernel
theorem dX7_mended_2 : decode cX7_mended 2 = .ok (.getfield 10, 3) := by decide +kernel
theorem dX7_mended_5 : decode cX7_mended 5 = .ok (.getfield 85, 3) := by decide +kernel
theorem dX7_mended_8 : decode cX7_mended 8 = .ok (.getfield 89, 3) := by decide +kernel
theorem dX7_mended_11 : decode cX7_mended 11 = .ok (.invokestatic 74, 3) := by decide +kernel
theorem dX7_mended_14 : decode cX7_mended 14 = .ok (.iconst 0, 1) := by decide +kernel
theorem dX7_mended_15 : decode cX7_mended 15 = .ok (.istore_n 2, 1) := by decide +kernel
theorem dX7_mended_16 : decode cX7_mended 16 = .ok (.iconst 0, 1) := by decide +kernel
theorem dX7_mended_17 : decode cX7_mended 17 = .ok (.istore_n 3, 1) := by decide +kernel
theorem dX7_mended_18 : decode cX7_mended 18 = .ok (.iload_n 3, 1) := by decide +kernel
theorem dX7_mended_19 : decode cX7_mended 19 = .ok (.sipush 256, 3) := by decide +kernel
theorem dX7_mended_22 : decode cX7_mended 22 = .ok (.if_icmp .ge 27, 3) := by decide +kernel
theorem dX7_mended_25 : decode cX7_mended 25 = .ok (.aload_n 0, 1) := by decide +kernel
theorem dX7_mended_26 : decode cX7_mended 26 = .ok (.bipush 16, 2) := by decide +kernel
theorem dX7_mended_28 : decode cX7_mended 28 = .ok (.iload_n 3, 1) := by decide +kernel
theorem dX7_mended_29 : decode cX7_mended 29 = .ok (.imul, 1) := by decide +kernel
theorem dX7_mended_30 : decode cX7_mended 30 = .ok (.iconst 1, 1) := by decide +kernel
theorem dX7_mended_31 : decode cX7_mended 31 = .ok (.iload_n 1, 1) := by decide +kernel
theorem dX7_mended_32 : decode cX7_mended 32 = .ok (.ishl, 1) := by decide +kernel
theorem dX7_mended_33 : decode cX7_mended 33 = .ok (.invokevirtual 156, 3) := by decide +kernel
theorem dX7_mended_36 : decode cX7_mended 36 = .ok (.iload_n 3, 1) := by decide +kernel
theorem dX7_mended_37 : decode cX7_mended 37 = .ok (.if_icmp .ne 6, 3) := by decide +kernel
theorem dX7_mended_40 : decode cX7_mended 40 = .ok (.iinc 2 1, 3) := by decide +kernel
theorem dX7_mended_43 : decode cX7_mended 43 = .ok (.iinc 3 1, 3) := by decide +kernel
theorem dX7_mended_46 : decode cX7_mended 46 = .ok (.goto (-28), 3) := by decide +kernel
theorem dX7_mended_49 : decode cX7_mended 49 = .ok (.iload_n 2, 1) := by decide +kernel
theorem dX7_mended_50 : decode cX7_mended 50 = .ok (.ireturn, 1) := by decide +kernel
set_option maxRecDepth 20000 in
theorem ggX7_ticksToChange_X7_steadyCode : GoodIn wsX7_ticksToChange wsX7_steadyCode := goodIn_r _ [8, 9, 1, 10, 11, 12, 13, 14, 15, 16, 17, 18, 19, 20, 21, 22, 7, 23, 24, 25, 27, 28, 29, 30, 31, 32, 33, 34, 35, 36, 37, 38, 39, 40, 41, 42, 43] (by decide +kernel) (by decide +kernel)
set_option maxRecDepth 20000 in
theorem gX7_ticksToChange_X7_steadyCode : GoodIn wsX7_ticksToChange (wsV RX7 156 RX7 yX7_steadyCode wsX7_steadyCode) := goodIn_app (goodIn_of _ (by decide +kernel)) ggX7_ticksToChange_X7_steadyCode
set_option maxRecDepth 20000 in
theorem ggX7_ticksToChange_X7_afterHoldTick : GoodIn wsX7_ticksToChange wsX7_afterHoldTick := goodIn_r _ [23] (by decide +kernel) (by decide +kernel)
set_option maxRecDepth 20000 in
theorem gX7_ticksToChange_X7_afterHoldTick : GoodIn wsX7_ticksToChange (va_wsS RX7 67 yX7_afterHoldTick wsX7_afterHoldTick) := goodIn_app (goodIn_of _ (by decide +kernel)) ggX7_ticksToChange_X7_afterHoldTick
theorem dX7_ticksToChange_0 : decode cX7_ticksToChange 0 = .ok (.aload_n 0, 1) := by decide +kernel
theorem dX7_ticksToChange_1 : decode cX7_ticksToChange 1 = .ok (.aload_n 0, 1) := by decide +kernel
theorem dX7_ticksToChange_2 : decode cX7_ticksToChange 2 = .ok (.getfield 10, 3) := by decide +kernel
theorem dX7_ticksToChange_5 : decode cX7_ticksToChange 5 = .ok (.getfield 53, 3) := by decide +kernel
theorem dX7_ticksToChange_8 : decode cX7_ticksToChange 8 = .ok (.iconst 0, 1) := by decide +kernel
theorem dX7_ticksToChange_9 : decode cX7_ticksToChange 9 = .ok (.invokevirtual 156, 3) := by decide +kernel
theorem dX7_ticksToChange_12 : decode cX7_ticksToChange 12 = .ok (.istore_n 1, 1) := by decide +kernel
theorem dX7_ticksToChange_13 : decode cX7_ticksToChange 13 = .ok (.aload_n 0, 1) := by decide +kernel
theorem dX7_ticksToChange_14 : decode cX7_ticksToChange 14 = .ok (.getfield 10, 3) := by decide +kernel
theorem dX7_ticksToChange_17 : decode cX7_ticksToChange 17 = .ok (.getfield 53, 3) := by decide +kernel
theorem dX7_ticksToChange_20 : decode cX7_ticksToChange 20 = .ok (.istore_n 2, 1) := by decide +kernel
theorem dX7_ticksToChange_21 : decode cX7_ticksToChange 21 = .ok (.iconst 1, 1) := by decide +kernel
theorem dX7_ticksToChange_22 : decode cX7_ticksToChange 22 = .ok (.istore_n 3, 1) := by decide +kernel
theorem dX7_ticksToChange_23 : decode cX7_ticksToChange 23 = .ok (.iload_n 3, 1) := by decide +kernel
theorem dX7_ticksToChange_24 : decode cX7_ticksToChange 24 = .ok (.sipush 200, 3) := by decide +kernel
theorem dX7_ticksToChange_27 : decode cX7_ticksToChange 27 = .ok (.if_icmp .gt 33, 3) := by decide +kernel
theorem dX7_ticksToChange_30 : decode cX7_ticksToChange 30 = .ok (.iload_n 2, 1) := by decide +kernel
theorem dX7_ticksToChange_31 : decode cX7_ticksToChange 31 = .ok (.aload_n 0, 1) := by decide +kernel
theorem dX7_ticksToChange_32 : decode cX7_ticksToChange 32 = .ok (.getfield 10, 3) := by decide +kernel
theorem dX7_ticksToChange_35 : decode cX7_ticksToChange 35 = .ok (.getfield 64, 3) := by decide +kernel
theorem dX7_ticksToChange_38 : decode cX7_ticksToChange 38 = .ok (.invokestatic 67, 3) := by decide +kernel
theorem dX7_ticksToChange_41 : decode cX7_ticksToChange 41 = .ok (.istore_n 2, 1) := by decide +kernel
theorem dX7_ticksToChange_42 : decode cX7_ticksToChange 42 = .ok (.aload_n 0, 1) := by decide +kernel
theorem dX7_ticksToChange_43 : decode cX7_ticksToChange 43 = .ok (.iload_n 2, 1) := by decide +kernel
theorem dX7_ticksToChange_44 : decode cX7_ticksToChange 44 = .ok (.iconst 0, 1) := by decide +kernel
theorem dX7_ticksToChange_45 : decode cX7_ticksToChange 45 = .ok (.invokevirtual 156, 3) := by decide +kernel
theorem dX7_ticksToChange_48 : decode cX7_ticksToChange 48 = .ok (.iload_n 1, 1) := by decide +kernel
theorem dX7_ticksToChange_49 : decode cX7_ticksToChange 49 = .ok (.if_icmp .eq 5, 3) := by decide +kernel
theorem dX7_ticksToChange_52 : decode cX7_ticksToChange 52 = .ok (.iload_n 3, 1) := by decide +kernel
theorem dX7_ticksToChange_53 : decode cX7_ticksToChange 53 = .ok (.ireturn, 1) := by decide +kernel
theorem dX7_ticksToChange_54 : decode cX7_ticksToChange 54 = .ok (.iinc 3 1, 3) := by decide +kernel
theorem dX7_ticksToChange_57 : decode cX7_ticksToChange 57 = .ok (.goto (-34), 3) := by decide +kernel
theorem dX7_ticksToChange_60 : decode cX7_ticksToChange 60 = .ok (.iconst (-1), 1) := by decide +kernel
theorem dX7_ticksToChange_61 : decode cX7_ticksToChange 61 = .ok (.ireturn, 1) := by decide +kernel
set_option maxRecDepth 20000 in
theorem ggX7_ticksToSettle_X7_requireArgument : GoodIn wsX7_ticksToSettle wsX7_requireArgument := goodIn_ca (goodIn_r _ [13, 14, 15] (by decide +kernel) (by decide +kernel)) (goodIn_sub (fun _ h => List.mem_cons_of_mem _ (List.mem_append_right _ h)) (by decide +kernel))
set_option maxRecDepth 20000 in
theorem gX7_ticksToSettle_X7_requireArgument : GoodIn wsX7_ticksToSettle (va_wsS RX7 45 yX7_requireArgument wsX7_requireArgument) := goodIn_app (goodIn_of _ (by decide +kernel)) ggX7_ticksToSettle_X7_requireArgument
set_option maxRecDepth 20000 in
theorem ggX7_ticksToSettle_X7_afterSampleTick : GoodIn wsX7_ticksToSettle wsX7_afterSampleTick := goodIn_r _ [18] (by decide +kernel) (by decide +kernel)
set_option maxRecDepth 20000 in
theorem gX7_ticksToSettle_X7_afterSampleTick : GoodIn wsX7_ticksToSettle (va_wsS RX7 60 yX7_afterSampleTick wsX7_afterSampleTick) := goodIn_app (goodIn_of _ (by decide +kernel)) ggX7_ticksToSettle_X7_afterSampleTick
theorem dX7_ticksToSettle_0 : decode cX7_ticksToSettle 0 = .ok (.iload_n 1, 1) := by decide +kernel
theorem dX7_ticksToSettle_1 : decode cX7_ticksToSettle 1 = .ok (.iconst 0, 1) := by decide +kernel
theorem dX7_ticksToSettle_2 : decode cX7_ticksToSettle 2 = .ok (.ldc 44, 2) := by decide +kernel
theorem dX7_ticksToSettle_4 : decode cX7_ticksToSettle 4 = .ok (.invokestatic 45, 3) := by decide +kernel
theorem dX7_ticksToSettle_7 : decode cX7_ticksToSettle 7 = .ok (.aload_n 0, 1) := by decide +kernel
theorem dX7_ticksToSettle_8 : decode cX7_ticksToSettle 8 = .ok (.getfield 10, 3) := by decide +kernel
theorem dX7_ticksToSettle_11 : decode cX7_ticksToSettle 11 = .ok (.getfield 53, 3) := by decide +kernel
theorem dX7_ticksToSettle_14 : decode cX7_ticksToSettle 14 = .ok (.istore_n 2, 1) := by decide +kernel
theorem dX7_ticksToSettle_15 : decode cX7_ticksToSettle 15 = .ok (.iconst 0, 1) := by decide +kernel
theorem dX7_ticksToSettle_16 : decode cX7_ticksToSettle 16 = .ok (.istore_n 3, 1) := by decide +kernel
theorem dX7_ticksToSettle_17 : decode cX7_ticksToSettle 17 = .ok (.iload_n 3, 1) := by decide +kernel
theorem dX7_ticksToSettle_18 : decode cX7_ticksToSettle 18 = .ok (.ldc 168, 2) := by decide +kernel
theorem dX7_ticksToSettle_20 : decode cX7_ticksToSettle 20 = .ok (.if_icmp .ge 33, 3) := by decide +kernel
theorem dX7_ticksToSettle_23 : decode cX7_ticksToSettle 23 = .ok (.iload_n 1, 1) := by decide +kernel
theorem dX7_ticksToSettle_24 : decode cX7_ticksToSettle 24 = .ok (.iload_n 2, 1) := by decide +kernel
theorem dX7_ticksToSettle_25 : decode cX7_ticksToSettle 25 = .ok (.isub, 1) := by decide +kernel
theorem dX7_ticksToSettle_26 : decode cX7_ticksToSettle 26 = .ok (.invokestatic 169, 3) := by decide +kernel
theorem dX7_ticksToSettle_29 : decode cX7_ticksToSettle 29 = .ok (.bipush 16, 2) := by decide +kernel
theorem dX7_ticksToSettle_31 : decode cX7_ticksToSettle 31 = .ok (.if_icmp .lt 22, 3) := by decide +kernel
theorem dX7_ticksToSettle_34 : decode cX7_ticksToSettle 34 = .ok (.iload_n 2, 1) := by decide +kernel
theorem dX7_ticksToSettle_35 : decode cX7_ticksToSettle 35 = .ok (.iload_n 1, 1) := by decide +kernel
theorem dX7_ticksToSettle_36 : decode cX7_ticksToSettle 36 = .ok (.aload_n 0, 1) := by decide +kernel
theorem dX7_ticksToSettle_37 : decode cX7_ticksToSettle 37 = .ok (.getfield 10, 3) := by decide +kernel
theorem dX7_ticksToSettle_40 : decode cX7_ticksToSettle 40 = .ok (.getfield 57, 3) := by decide +kernel
theorem dX7_ticksToSettle_43 : decode cX7_ticksToSettle 43 = .ok (.invokestatic 60, 3) := by decide +kernel
theorem dX7_ticksToSettle_46 : decode cX7_ticksToSettle 46 = .ok (.istore_n 2, 1) := by decide +kernel
theorem dX7_ticksToSettle_47 : decode cX7_ticksToSettle 47 = .ok (.iinc 3 1, 3) := by decide +kernel
theorem dX7_ticksToSettle_50 : decode cX7_ticksToSettle 50 = .ok (.goto (-33), 3) := by decide +kernel
theorem dX7_ticksToSettle_53 : decode cX7_ticksToSettle 53 = .ok (.iload_n 3, 1) := by decide +kernel
theorem dX7_ticksToSettle_54 : decode cX7_ticksToSettle 54 = .ok (.ireturn, 1) := by decide +kernel
set_option maxRecDepth 20000 in
theorem ggX7_append_X7_requireArgument : GoodIn wsX7_append wsX7_requireArgument := goodIn_ca (goodIn_r _ [8, 9, 10] (by decide +kernel) (by decide +kernel)) (goodIn_sub (fun _ h => List.mem_cons_of_mem _ (List.mem_append_right _ h)) (by decide +kernel))
set_option maxRecDepth 20000 in
theorem gX7_append_X7_requireArgument : GoodIn wsX7_append (va_wsS RX7 45 yX7_requireArgument wsX7_requireArgument) := goodIn_app (goodIn_of _ (by decide +kernel)) ggX7_append_X7_requireArgument
set_option maxRecDepth 20000 in
theorem ggX7_append_X5_add : GoodIn wsX7_append wsX5_add := goodIn_r _ [15, 16, 17, 23, 24] (by decide +kernel) (by decide +kernel)
set_option maxRecDepth 20000 in
theorem gX7_append_X5_add : GoodIn wsX7_append (wsV RX7 179 RX5 yX5_add wsX5_add) := goodIn_app (goodIn_of _ (by decide +kernel)) ggX7_append_X5_add
theorem dX7_append_0 : decode cX7_append 0 = .ok (.iload_n 1, 1) := by decide +kernel
theorem dX7_append_1 : decode cX7_append 1 = .ok (.bipush 33, 2) := by decide +kernel
theorem dX7_append_3 : decode cX7_append 3 = .ok (.bipush 126, 2) := by decide +kernel
theorem dX7_append_5 : decode cX7_append 5 = .ok (.invokestatic 45, 3) := by decide +kernel
theorem dX7_append_8 : decode cX7_append 8 = .ok (.aload_n 0, 1) := by decide +kernel
theorem dX7_append_9 : decode cX7_append 9 = .ok (.getfield 26, 3) := by decide +kernel
theorem dX7_append_12 : decode cX7_append 12 = .ok (.getfield 174, 3) := by decide +kernel
theorem dX7_append_15 : decode cX7_append 15 = .ok (.bipush 60, 2) := by decide +kernel
theorem dX7_append_17 : decode cX7_append 17 = .ok (.if_icmp .lt 13, 3) := by decide +kernel
theorem dX7_append_20 : decode cX7_append 20 = .ok (.new 98, 3) := by decide +kernel
theorem dX7_append_23 : decode cX7_append 23 = .ok (.dup, 1) := by decide +kernel
theorem dX7_append_24 : decode cX7_append 24 = .ok (.ldc 177, 2) := by decide +kernel
theorem dX7_append_26 : decode cX7_append 26 = .ok (.invokespecial 102, 3) := by decide +kernel
theorem dX7_append_29 : decode cX7_append 29 = .ok (.athrow, 1) := by decide +kernel
theorem dX7_append_30 : decode cX7_append 30 = .ok (.aload_n 0, 1) := by decide +kernel
theorem dX7_append_31 : decode cX7_append 31 = .ok (.getfield 26, 3) := by decide +kernel
theorem dX7_append_34 : decode cX7_append 34 = .ok (.iload_n 1, 1) := by decide +kernel
theorem dX7_append_35 : decode cX7_append 35 = .ok (.i2c, 1) := by decide +kernel
theorem dX7_append_36 : decode cX7_append 36 = .ok (.invokevirtual 179, 3) := by decide +kernel
theorem dX7_append_39 : decode cX7_append 39 = .ok (.aload_n 0, 1) := by decide +kernel
theorem dX7_append_40 : decode cX7_append 40 = .ok (.getfield 26, 3) := by decide +kernel
theorem dX7_append_43 : decode cX7_append 43 = .ok (.getfield 174, 3) := by decide +kernel
theorem dX7_append_46 : decode cX7_append 46 = .ok (.ireturn, 1) := by decide +kernel
set_option maxRecDepth 20000 in
theorem ggX7_firstError_X5_errorIndex : GoodIn wsX7_firstError wsX5_errorIndex := goodIn_r _ [6, 7, 8, 9, 10, 5, 11, 17, 18] (by decide +kernel) (by decide +kernel)
set_option maxRecDepth 20000 in
theorem gX7_firstError_X5_errorIndex : GoodIn wsX7_firstError (wsV RX7 182 RX5 yX5_errorIndex wsX5_errorIndex) := goodIn_app (goodIn_of _ (by decide +kernel)) ggX7_firstError_X5_errorIndex
theorem dX7_firstError_0 : decode cX7_firstError 0 = .ok (.aload_n 0, 1) := by decide +kernel
theorem dX7_firstError_1 : decode cX7_firstError 1 = .ok (.getfield 26, 3) := by decide +kernel
theorem dX7_firstError_4 : decode cX7_firstError 4 = .ok (.invokevirtual 182, 3) := by decide +kernel
theorem dX7_firstError_7 : decode cX7_firstError 7 = .ok (.ireturn, 1) := by decide +kernel
set_option maxRecDepth 20000 in
theorem ggX7_load_X5_isComplete : GoodIn wsX7_load wsX5_isComplete := goodIn_r _ [13, 14, 15, 16, 17, 18, 12, 19, 20, 21, 22, 89, 90] (by decide +kernel) (by decide +kernel)
set_option maxRecDepth 20000 in
theorem gX7_load_X5_isComplete : GoodIn wsX7_load (wsV RX7 185 RX5 yX5_isComplete wsX5_isComplete) := goodIn_app (goodIn_of _ (by decide +kernel)) ggX7_load_X5_isComplete
set_option maxRecDepth 20000 in
theorem ggX7_load_X1_push : GoodIn wsX7_load wsX1_push := goodIn_r _ [27, 28, 29, 30, 31, 32, 33, 34, 35, 36, 37, 38, 39, 40, 41, 42, 43, 44, 45, 46, 47, 48, 49, 50, 51, 52, 53, 54, 55, 56, 57, 58, 59, 60, 61, 62, 63, 64, 65, 66, 67, 93, 94, 95, 82, 83, 84, 85, 86, 87, 88, 91, 92, 96, 97, 98, 99] (by decide +kernel) (by decide +kernel)
set_option maxRecDepth 20000 in
theorem gX7_load_X1_push : GoodIn wsX7_load (wsV RX7 49 RX1 yX1_push wsX1_push) := goodIn_app (goodIn_of _ (by decide +kernel)) ggX7_load_X1_push
set_option maxRecDepth 20000 in
theorem ggX7_load_X5_writeTo : GoodIn wsX7_load wsX5_writeTo := goodIn_r _ [71, 72, 14, 15, 73, 74, 75, 50, 76, 57, 52, 20, 21, 12, 22, 91, 92, 89, 90] (by decide +kernel) (by decide +kernel)
set_option maxRecDepth 20000 in
theorem gX7_load_X5_writeTo : GoodIn wsX7_load (wsV RX7 194 RX5 yX5_writeTo wsX5_writeTo) := goodIn_app (goodIn_of _ (by decide +kernel)) ggX7_load_X5_writeTo
theorem dX7_load_0 : decode cX7_load 0 = .ok (.aload_n 0, 1) := by decide +kernel
theorem dX7_load_1 : decode cX7_load 1 = .ok (.getfield 26, 3) := by decide +kernel
theorem dX7_load_4 : decode cX7_load 4 = .ok (.invokevirtual 185, 3) := by decide +kernel
theorem dX7_load_7 : decode cX7_load 7 = .ok (.ifCond .ne 13, 3) := by decide +kernel
theorem dX7_load_10 : decode cX7_load 10 = .ok (.new 189, 3) := by decide +kernel
theorem dX7_load_13 : decode cX7_load 13 = .ok (.dup, 1) := by decide +kernel
theorem dX7_load_14 : decode cX7_load 14 = .ok (.ldc 191, 2) := by decide +kernel
theorem dX7_load_16 : decode cX7_load 16 = .ok (.invokespecial 193, 3) := by decide +kernel
theorem dX7_load_19 : decode cX7_load 19 = .ok (.athrow, 1) := by decide +kernel
theorem dX7_load_20 : decode cX7_load 20 = .ok (.aload_n 0, 1) := by decide +kernel
theorem dX7_load_21 : decode cX7_load 21 = .ok (.getfield 19, 3) := by decide +kernel
theorem dX7_load_24 : decode cX7_load 24 = .ok (.aload_n 0, 1) := by decide +kernel
theorem dX7_load_25 : decode cX7_load 25 = .ok (.getfield 10, 3) := by decide +kernel
theorem dX7_load_28 : decode cX7_load 28 = .ok (.invokevirtual 49, 3) := by decide +kernel
theorem dX7_load_31 : decode cX7_load 31 = .ok (.aload_n 0, 1) := by decide +kernel
theorem dX7_load_32 : decode cX7_load 32 = .ok (.getfield 26, 3) := by decide +kernel
theorem dX7_load_35 : decode cX7_load 35 = .ok (.aload_n 0, 1) := by decide +kernel
theorem dX7_load_36 : decode cX7_load 36 = .ok (.getfield 10, 3) := by decide +kernel
theorem dX7_load_39 : decode cX7_load 39 = .ok (.getfield 85, 3) := by decide +kernel
theorem dX7_load_42 : decode cX7_load 42 = .ok (.invokevirtual 194, 3) := by decide +kernel
theorem dX7_load_45 : decode cX7_load 45 = .ok (.aload_n 0, 1) := by decide +kernel
theorem dX7_load_46 : decode cX7_load 46 = .ok (.getfield 26, 3) := by decide +kernel
theorem dX7_load_49 : decode cX7_load 49 = .ok (.iconst 0, 1) := by decide +kernel
theorem dX7_load_50 : decode cX7_load 50 = .ok (.putfield 174, 3) := by decide +kernel
theorem dX7_load_53 : decode cX7_load 53 = .ok (.aload_n 0, 1) := by decide +kernel
theorem dX7_load_54 : decode cX7_load 54 = .ok (.getfield 10, 3) := by decide +kernel
theorem dX7_load_57 : decode cX7_load 57 = .ok (.getfield 85, 3) := by decide +kernel
theorem dX7_load_60 : decode cX7_load 60 = .ok (.getfield 89, 3) := by decide +kernel
theorem dX7_load_63 : decode cX7_load 63 = .ok (.ireturn, 1) := by decide +kernel
set_option maxRecDepth 20000 in
theorem ggX7_undo_X1_pop : GoodIn wsX7_undo wsX1_pop := goodIn_r _ [10, 11, 12, 13, 14, 15, 16, 17, 18, 19, 20, 21, 22, 23, 24, 25, 26, 27, 28, 29, 30, 31, 32, 33, 34, 35, 36, 37, 38, 39, 40, 41, 42, 43, 44, 45, 46, 52, 53, 54, 55, 56, 57, 58, 59, 60, 61, 62, 63, 64, 65, 66, 67] (by decide +kernel) (by decide +kernel)
set_option maxRecDepth 20000 in
theorem gX7_undo_X1_pop : GoodIn wsX7_undo (wsV RX7 200 RX1 yX1_pop wsX1_pop) := goodIn_app (goodIn_of _ (by decide +kernel)) ggX7_undo_X1_pop
theorem dX7_undo_0 : decode cX7_undo 0 = .ok (.aload_n 0, 1) := by decide +kernel
theorem dX7_undo_1 : decode cX7_undo 1 = .ok (.getfield 19, 3) := by decide +kernel
theorem dX7_undo_4 : decode cX7_undo 4 = .ok (.getfield 197, 3) := by decide +kernel
theorem dX7_undo_7 : decode cX7_undo 7 = .ok (.ifCond .ne 13, 3) := by decide +kernel
theorem dX7_undo_10 : decode cX7_undo 10 = .ok (.new 98, 3) := by decide +kernel
theorem dX7_undo_13 : decode cX7_undo 13 = .ok (.dup, 1) := by decide +kernel
theorem dX7_undo_14 : decode cX7_undo 14 = .ok (.ldc 198, 2) := by decide +kernel
theorem dX7_undo_16 : decode cX7_undo 16 = .ok (.invokespecial 102, 3) := by decide +kernel
theorem dX7_undo_19 : decode cX7_undo 19 = .ok (.athrow, 1) := by decide +kernel
theorem dX7_undo_20 : decode cX7_undo 20 = .ok (.aload_n 0, 1) := by decide +kernel
theorem dX7_undo_21 : decode cX7_undo 21 = .ok (.getfield 19, 3) := by decide +kernel
theorem dX7_undo_24 : decode cX7_undo 24 = .ok (.aload_n 0, 1) := by decide +kernel
theorem dX7_undo_25 : decode cX7_undo 25 = .ok (.getfield 10, 3) := by decide +kernel
theorem dX7_undo_28 : decode cX7_undo 28 = .ok (.invokevirtual 200, 3) := by decide +kernel
theorem dX7_undo_31 : decode cX7_undo 31 = .ok (.aload_n 0, 1) := by decide +kernel
theorem dX7_undo_32 : decode cX7_undo 32 = .ok (.getfield 19, 3) := by decide +kernel
theorem dX7_undo_35 : decode cX7_undo 35 = .ok (.getfield 197, 3) := by decide +kernel
theorem dX7_undo_38 : decode cX7_undo 38 = .ok (.ireturn, 1) := by decide +kernel
theorem dX7_savedStates_0 : decode cX7_savedStates 0 = .ok (.aload_n 0, 1) := by decide +kernel
theorem dX7_savedStates_1 : decode cX7_savedStates 1 = .ok (.getfield 19, 3) := by decide +kernel
theorem dX7_savedStates_4 : decode cX7_savedStates 4 = .ok (.getfield 197, 3) := by decide +kernel
theorem dX7_savedStates_7 : decode cX7_savedStates 7 = .ok (.ireturn, 1) := by decide +kernel
set_option maxRecDepth 20000 in
theorem ggX7_digest_X7_voltage : GoodIn wsX7_digest wsX7_voltage := goodIn_r _ [11, 2, 12, 143, 144, 145, 146, 147, 148, 149, 150, 151, 152, 153, 154] (by decide +kernel) (by decide +kernel)
set_option maxRecDepth 20000 in
theorem gX7_digest_X7_voltage : GoodIn wsX7_digest (wsV RX7 205 RX7 yX7_voltage wsX7_voltage) := goodIn_app (goodIn_of _ (by decide +kernel)) ggX7_digest_X7_voltage
set_option maxRecDepth 20000 in
theorem ggX7_digest_X7_mixed : GoodIn wsX7_digest wsX7_mixed := goodIn_r _ [15, 16] (by decide +kernel) (by decide +kernel)
set_option maxRecDepth 20000 in
theorem gX7_digest_X7_mixed : GoodIn wsX7_digest (va_wsS RX7 207 yX7_mixed wsX7_mixed) := goodIn_app (goodIn_of _ (by decide +kernel)) ggX7_digest_X7_mixed
set_option maxRecDepth 20000 in
theorem ggX7_digest_X7_weights : GoodIn wsX7_digest wsX7_weights := goodIn_r _ [20, 2, 3, 4, 143, 144, 145, 146, 147, 148, 149, 150, 151, 152, 153, 154, 155, 156] (by decide +kernel) (by decide +kernel)
set_option maxRecDepth 20000 in
theorem gX7_digest_X7_weights : GoodIn wsX7_digest (wsV RX7 211 RX7 yX7_weights wsX7_weights) := goodIn_app (goodIn_of _ (by decide +kernel)) ggX7_digest_X7_weights
set_option maxRecDepth 20000 in
theorem ggX7_digest_X7_total : GoodIn wsX7_digest wsX7_total := goodIn_r _ [24, 2, 3, 25, 26, 27, 28, 29, 30, 31, 143, 144, 145, 146, 147, 148, 149, 150, 151, 152, 153, 154, 155, 156] (by decide +kernel) (by decide +kernel)
set_option maxRecDepth 20000 in
theorem gX7_digest_X7_total : GoodIn wsX7_digest (wsV RX7 213 RX7 yX7_total wsX7_total) := goodIn_app (goodIn_of _ (by decide +kernel)) ggX7_digest_X7_total
set_option maxRecDepth 20000 in
theorem ggX7_digest_X7_nextCode : GoodIn wsX7_digest wsX7_nextCode := goodIn_r _ [35, 36, 37, 38, 39, 40, 10, 41, 2, 3, 12, 42, 43, 44, 45, 46, 47, 48, 49, 50, 51, 52, 53, 54, 55, 56, 57, 58, 143, 144, 145, 146, 147, 161, 162, 163, 148, 149, 150, 151, 152, 153, 154, 155, 156] (by decide +kernel) (by decide +kernel)
set_option maxRecDepth 20000 in
theorem gX7_digest_X7_nextCode : GoodIn wsX7_digest (wsV RX7 216 RX7 yX7_nextCode wsX7_nextCode) := goodIn_app (goodIn_of _ (by decide +kernel)) ggX7_digest_X7_nextCode
set_option maxRecDepth 20000 in
theorem ggX7_digest_X7_sums : GoodIn wsX7_digest wsX7_sums := goodIn_r _ [62, 63, 2, 3, 64, 65, 66, 67, 68, 69, 70, 71, 72, 73, 74, 75, 76, 77, 78, 79, 80, 81, 82, 83, 84, 85, 86, 143, 144, 145, 146, 147, 148, 149, 150, 151, 152, 153, 154, 164, 155, 156] (by decide +kernel) (by decide +kernel)
set_option maxRecDepth 20000 in
theorem gX7_digest_X7_sums : GoodIn wsX7_digest (wsV RX7 219 RX7 yX7_sums wsX7_sums) := goodIn_app (goodIn_of _ (by decide +kernel)) ggX7_digest_X7_sums
set_option maxRecDepth 20000 in
theorem ggX7_digest_X7_leastMissing : GoodIn wsX7_digest wsX7_leastMissing := goodIn_r _ [90, 63, 2, 3, 64, 65, 66, 67, 68, 69, 70, 71, 72, 73, 74, 75, 91, 92, 93, 94, 143, 144, 145, 146, 147, 148, 149, 150, 151, 152, 153, 154, 164, 155, 156] (by decide +kernel) (by decide +kernel)
set_option maxRecDepth 20000 in
theorem gX7_digest_X7_leastMissing : GoodIn wsX7_digest (wsV RX7 222 RX7 yX7_leastMissing wsX7_leastMissing) := goodIn_app (goodIn_of _ (by decide +kernel)) ggX7_digest_X7_leastMissing
set_option maxRecDepth 20000 in
theorem ggX7_digest_X7_ticksToChange : GoodIn wsX7_digest wsX7_ticksToChange := goodIn_r _ [98, 2, 12, 42, 99, 100, 101, 10, 102, 36, 3, 37, 45, 46, 47, 48, 49, 50, 51, 52, 53, 54, 55, 56, 57, 58, 103, 143, 144, 145, 146, 147, 148, 149, 150, 151, 152, 153, 154, 161, 162, 163, 155, 156] (by decide +kernel) (by decide +kernel)
set_option maxRecDepth 20000 in
theorem gX7_digest_X7_ticksToChange : GoodIn wsX7_digest (wsV RX7 225 RX7 yX7_ticksToChange wsX7_ticksToChange) := goodIn_app (goodIn_of _ (by decide +kernel)) ggX7_digest_X7_ticksToChange
set_option maxRecDepth 20000 in
theorem ggX7_digest_X7_logged : GoodIn wsX7_digest wsX7_logged := goodIn_r _ [107, 2, 5, 6, 143, 144, 145, 146, 147, 148, 149, 150, 151, 152, 153, 154, 157, 158, 159, 160] (by decide +kernel) (by decide +kernel)
set_option maxRecDepth 20000 in
theorem gX7_digest_X7_logged : GoodIn wsX7_digest (wsV RX7 228 RX7 yX7_logged wsX7_logged) := goodIn_app (goodIn_of _ (by decide +kernel)) ggX7_digest_X7_logged
set_option maxRecDepth 20000 in
theorem ggX7_digest_X7_weight : GoodIn wsX7_digest wsX7_weight := goodIn_ca (goodIn_r _ [111, 2, 3, 4, 112, 113, 114, 10, 115, 116, 117, 143, 144, 145, 146, 147, 148, 149, 150, 151, 152, 153, 154, 155, 156] (by decide +kernel) (by decide +kernel)) (goodIn_sub (fun _ h => List.mem_cons_of_mem _ (List.mem_append_right _ h)) (by decide +kernel))
set_option maxRecDepth 20000 in
theorem gX7_digest_X7_weight : GoodIn wsX7_digest (wsV RX7 231 RX7 yX7_weight wsX7_weight) := goodIn_app (goodIn_of _ (by decide +kernel)) ggX7_digest_X7_weight
set_option maxRecDepth 20000 in
theorem ggX7_digest_X7_mended : GoodIn wsX7_digest wsX7_mended := goodIn_ca (goodIn_r _ [121, 2, 3, 4, 113, 114, 10, 115, 116, 117, 99, 100, 101, 102, 36, 37, 45, 46, 47, 48, 49, 50, 51, 52, 53, 54, 55, 56, 57, 58, 143, 144, 145, 146, 147, 148, 149, 150, 151, 152, 153, 154, 155, 156, 161, 162, 163] (by decide +kernel) (by decide +kernel)) (goodIn_sub (fun _ h => List.mem_cons_of_mem _ (List.mem_append_right _ h)) (by decide +kernel))
set_option maxRecDepth 20000 in
theorem gX7_digest_X7_mended : GoodIn wsX7_digest (wsV RX7 234 RX7 yX7_mended wsX7_mended) := goodIn_app (goodIn_of _ (by decide +kernel)) ggX7_digest_X7_mended
set_option maxRecDepth 20000 in
theorem ggX7_digest_X7_code : GoodIn wsX7_digest wsX7_code := goodIn_ca (goodIn_r _ [125, 2, 5, 6, 126, 113, 114, 10, 115, 116, 117, 143, 144, 145, 146, 147, 148, 149, 150, 151, 152, 153, 154, 157, 158, 159, 160] (by decide +kernel) (by decide +kernel)) (goodIn_sub (fun _ h => List.mem_cons_of_mem _ (List.mem_append_right _ h)) (by decide +kernel))
set_option maxRecDepth 20000 in
theorem gX7_digest_X7_code : GoodIn wsX7_digest (wsV RX7 237 RX7 yX7_code wsX7_code) := goodIn_app (goodIn_of _ (by decide +kernel)) ggX7_digest_X7_code
set_option maxRecDepth 20000 in
theorem ggX7_digest_X7_kept : GoodIn wsX7_digest wsX7_kept := goodIn_ca (goodIn_r _ [130, 2, 5, 6, 131, 113, 114, 10, 115, 116, 117, 143, 144, 145, 146, 147, 148, 149, 150, 151, 152, 153, 154, 157, 158, 159, 160] (by decide +kernel) (by decide +kernel)) (goodIn_sub (fun _ h => List.mem_cons_of_mem _ (List.mem_append_right _ h)) (by decide +kernel))
set_option maxRecDepth 20000 in
theorem gX7_digest_X7_kept : GoodIn wsX7_digest (wsV RX7 239 RX7 yX7_kept wsX7_kept) := goodIn_app (goodIn_of _ (by decide +kernel)) ggX7_digest_X7_kept
set_option maxRecDepth 20000 in
theorem ggX7_digest_X7_error : GoodIn wsX7_digest wsX7_error := goodIn_ca (goodIn_r _ [135, 2, 5, 6, 113, 114, 10, 115, 116, 117, 136, 137, 138, 139, 140, 141, 142, 143, 144, 145, 146, 147, 148, 149, 150, 151, 152, 153, 154, 157, 158, 159, 160] (by decide +kernel) (by decide +kernel)) (goodIn_sub (fun _ h => List.mem_cons_of_mem _ (List.mem_append_right _ h)) (by decide +kernel))
set_option maxRecDepth 20000 in
theorem gX7_digest_X7_error : GoodIn wsX7_digest (wsV RX7 241 RX7 yX7_error wsX7_error) := goodIn_app (goodIn_of _ (by decide +kernel)) ggX7_digest_X7_error
theorem dX7_digest_0 : decode cX7_digest 0 = .ok (.ldc2_w 203, 3) := by decide +kernel
theorem dX7_digest_3 : decode cX7_digest 3 = .ok (.lstore_n 1, 1) := by decide +kernel
theorem dX7_digest_4 : decode cX7_digest 4 = .ok (.lload_n 1, 1) := by decide +kernel
theorem dX7_digest_5 : decode cX7_digest 5 = .ok (.aload_n 0, 1) := by decide +kernel
theorem dX7_digest_6 : decode cX7_digest 6 = .ok (.invokevirtual 205, 3) := by decide +kernel
theorem dX7_digest_9 : decode cX7_digest 9 = .ok (.invokestatic 207, 3) := by decide +kernel
theorem dX7_digest_12 : decode cX7_digest 12 = .ok (.lstore_n 1, 1) := by decide +kernel
theorem dX7_digest_13 : decode cX7_digest 13 = .ok (.lload_n 1, 1) := by decide +kernel
theorem dX7_digest_14 : decode cX7_digest 14 = .ok (.aload_n 0, 1) := by decide +kernel
theorem dX7_digest_15 : decode cX7_digest 15 = .ok (.invokevirtual 211, 3) := by decide +kernel
theorem dX7_digest_18 : decode cX7_digest 18 = .ok (.invokestatic 207, 3) := by decide +kernel
theorem dX7_digest_21 : decode cX7_digest 21 = .ok (.lstore_n 1, 1) := by decide +kernel
theorem dX7_digest_22 : decode cX7_digest 22 = .ok (.lload_n 1, 1) := by decide +kernel
theorem dX7_digest_23 : decode cX7_digest 23 = .ok (.aload_n 0, 1) := by decide +kernel
theorem dX7_digest_24 : decode cX7_digest 24 = .ok (.invokevirtual 213, 3) := by decide +kernel
theorem dX7_digest_27 : decode cX7_digest 27 = .ok (.invokestatic 207, 3) := by decide +kernel
theorem dX7_digest_30 : decode cX7_digest 30 = .ok (.lstore_n 1, 1) := by decide +kernel
theorem dX7_digest_31 : decode cX7_digest 31 = .ok (.lload_n 1, 1) := by decide +kernel
theorem dX7_digest_32 : decode cX7_digest 32 = .ok (.aload_n 0, 1) := by decide +kernel
theorem dX7_digest_33 : decode cX7_digest 33 = .ok (.invokevirtual 216, 3) := by decide +kernel
theorem dX7_digest_36 : decode cX7_digest 36 = .ok (.invokestatic 207, 3) := by decide +kernel
theorem dX7_digest_39 : decode cX7_digest 39 = .ok (.lstore_n 1, 1) := by decide +kernel
theorem dX7_digest_40 : decode cX7_digest 40 = .ok (.lload_n 1, 1) := by decide +kernel
theorem dX7_digest_41 : decode cX7_digest 41 = .ok (.aload_n 0, 1) := by decide +kernel
theorem dX7_digest_42 : decode cX7_digest 42 = .ok (.invokevirtual 219, 3) := by decide +kernel
theorem dX7_digest_45 : decode cX7_digest 45 = .ok (.invokestatic 207, 3) := by decide +kernel
theorem dX7_digest_48 : decode cX7_digest 48 = .ok (.lstore_n 1, 1) := by decide +kernel
theorem dX7_digest_49 : decode cX7_digest 49 = .ok (.lload_n 1, 1) := by decide +kernel
theorem dX7_digest_50 : decode cX7_digest 50 = .ok (.aload_n 0, 1) := by decide +kernel
theorem dX7_digest_51 : decode cX7_digest 51 = .ok (.invokevirtual 222, 3) := by decide +kernel
theorem dX7_digest_54 : decode cX7_digest 54 = .ok (.invokestatic 207, 3) := by decide +kernel
theorem dX7_digest_57 : decode cX7_digest 57 = .ok (.lstore_n 1, 1) := by decide +kernel
theorem dX7_digest_58 : decode cX7_digest 58 = .ok (.lload_n 1, 1) := by decide +kernel
theorem dX7_digest_59 : decode cX7_digest 59 = .ok (.aload_n 0, 1) := by decide +kernel
theorem dX7_digest_60 : decode cX7_digest 60 = .ok (.invokevirtual 225, 3) := by decide +kernel
theorem dX7_digest_63 : decode cX7_digest 63 = .ok (.invokestatic 207, 3) := by decide +kernel
theorem dX7_digest_66 : decode cX7_digest 66 = .ok (.lstore_n 1, 1) := by decide +kernel
theorem dX7_digest_67 : decode cX7_digest 67 = .ok (.lload_n 1, 1) := by decide +kernel
theorem dX7_digest_68 : decode cX7_digest 68 = .ok (.aload_n 0, 1) := by decide +kernel
theorem dX7_digest_69 : decode cX7_digest 69 = .ok (.invokevirtual 228, 3) := by decide +kernel
theorem dX7_digest_72 : decode cX7_digest 72 = .ok (.invokestatic 207, 3) := by decide +kernel
theorem dX7_digest_75 : decode cX7_digest 75 = .ok (.lstore_n 1, 1) := by decide +kernel
theorem dX7_digest_76 : decode cX7_digest 76 = .ok (.iconst 0, 1) := by decide +kernel
theorem dX7_digest_77 : decode cX7_digest 77 = .ok (.istore_n 3, 1) := by decide +kernel
theorem dX7_digest_78 : decode cX7_digest 78 = .ok (.iload_n 3, 1) := by decide +kernel
theorem dX7_digest_79 : decode cX7_digest 79 = .ok (.aload_n 0, 1) := by decide +kernel
theorem dX7_digest_80 : decode cX7_digest 80 = .ok (.getfield 10, 3) := by decide +kernel
theorem dX7_digest_83 : decode cX7_digest 83 = .ok (.getfield 85, 3) := by decide +kernel
theorem dX7_digest_86 : decode cX7_digest 86 = .ok (.getfield 89, 3) := by decide +kernel
theorem dX7_digest_89 : decode cX7_digest 89 = .ok (.if_icmp .ge 29, 3) := by decide +kernel
theorem dX7_digest_92 : decode cX7_digest 92 = .ok (.lload_n 1, 1) := by decide +kernel
theorem dX7_digest_93 : decode cX7_digest 93 = .ok (.aload_n 0, 1) := by decide +kernel
theorem dX7_digest_94 : decode cX7_digest 94 = .ok (.iload_n 3, 1) := by decide +kernel
theorem dX7_digest_95 : decode cX7_digest 95 = .ok (.invokevirtual 231, 3) := by decide +kernel
theorem dX7_digest_98 : decode cX7_digest 98 = .ok (.invokestatic 207, 3) := by decide +kernel
theorem dX7_digest_101 : decode cX7_digest 101 = .ok (.lstore_n 1, 1) := by decide +kernel
theorem dX7_digest_102 : decode cX7_digest 102 = .ok (.lload_n 1, 1) := by decide +kernel
theorem dX7_digest_103 : decode cX7_digest 103 = .ok (.aload_n 0, 1) := by decide +kernel
theorem dX7_digest_104 : decode cX7_digest 104 = .ok (.iload_n 3, 1) := by decide +kernel
theorem dX7_digest_105 : decode cX7_digest 105 = .ok (.invokevirtual 234, 3) := by decide +kernel
theorem dX7_digest_108 : decode cX7_digest 108 = .ok (.invokestatic 207, 3) := by decide +kernel
theorem dX7_digest_111 : decode cX7_digest 111 = .ok (.lstore_n 1, 1) := by decide +kernel
theorem dX7_digest_112 : decode cX7_digest 112 = .ok (.iinc 3 1, 3) := by decide +kernel
theorem dX7_digest_115 : decode cX7_digest 115 = .ok (.goto (-37), 3) := by decide +kernel
theorem dX7_digest_118 : decode cX7_digest 118 = .ok (.iconst 0, 1) := by decide +kernel
theorem dX7_digest_119 : decode cX7_digest 119 = .ok (.istore_n 3, 1) := by decide +kernel
theorem dX7_digest_120 : decode cX7_digest 120 = .ok (.iload_n 3, 1) := by decide +kernel
theorem dX7_digest_121 : decode cX7_digest 121 = .ok (.aload_n 0, 1) := by decide +kernel
theorem dX7_digest_122 : decode cX7_digest 122 = .ok (.getfield 10, 3) := by decide +kernel
theorem dX7_digest_125 : decode cX7_digest 125 = .ok (.getfield 128, 3) := by decide +kernel
theorem dX7_digest_128 : decode cX7_digest 128 = .ok (.getfield 143, 3) := by decide +kernel
theorem dX7_digest_131 : decode cX7_digest 131 = .ok (.if_icmp .ge 39, 3) := by decide +kernel
theorem dX7_digest_134 : decode cX7_digest 134 = .ok (.lload_n 1, 1) := by decide +kernel
theorem dX7_digest_135 : decode cX7_digest 135 = .ok (.aload_n 0, 1) := by decide +kernel
theorem dX7_digest_136 : decode cX7_digest 136 = .ok (.iload_n 3, 1) := by decide +kernel
theorem dX7_digest_137 : decode cX7_digest 137 = .ok (.invokevirtual 237, 3) := by decide +kernel
theorem dX7_digest_140 : decode cX7_digest 140 = .ok (.invokestatic 207, 3) := by decide +kernel
theorem dX7_digest_143 : decode cX7_digest 143 = .ok (.lstore_n 1, 1) := by decide +kernel
theorem dX7_digest_144 : decode cX7_digest 144 = .ok (.lload_n 1, 1) := by decide +kernel
theorem dX7_digest_145 : decode cX7_digest 145 = .ok (.aload_n 0, 1) := by decide +kernel
theorem dX7_digest_146 : decode cX7_digest 146 = .ok (.iload_n 3, 1) := by decide +kernel
theorem dX7_digest_147 : decode cX7_digest 147 = .ok (.invokevirtual 239, 3) := by decide +kernel
theorem dX7_digest_150 : decode cX7_digest 150 = .ok (.invokestatic 207, 3) := by decide +kernel
theorem dX7_digest_153 : decode cX7_digest 153 = .ok (.lstore_n 1, 1) := by decide +kernel
theorem dX7_digest_154 : decode cX7_digest 154 = .ok (.lload_n 1, 1) := by decide +kernel
theorem dX7_digest_155 : decode cX7_digest 155 = .ok (.aload_n 0, 1) := by decide +kernel
theorem dX7_digest_156 : decode cX7_digest 156 = .ok (.iload_n 3, 1) := by decide +kernel
theorem dX7_digest_157 : decode cX7_digest 157 = .ok (.invokevirtual 241, 3) := by decide +kernel
theorem dX7_digest_160 : decode cX7_digest 160 = .ok (.invokestatic 207, 3) := by decide +kernel
theorem dX7_digest_163 : decode cX7_digest 163 = .ok (.lstore_n 1, 1) := by decide +kernel
theorem dX7_digest_164 : decode cX7_digest 164 = .ok (.iinc 3 1, 3) := by decide +kernel
theorem dX7_digest_167 : decode cX7_digest 167 = .ok (.goto (-47), 3) := by decide +kernel
theorem dX7_digest_170 : decode cX7_digest 170 = .ok (.lload_n 1, 1) := by decide +kernel
theorem dX7_digest_171 : decode cX7_digest 171 = .ok (.lreturn, 1) := by decide +kernel
theorem dX7_requireArgument_0 : decode cX7_requireArgument 0 = .ok (.iload_n 0, 1) := by decide +kernel
theorem dX7_requireArgument_1 : decode cX7_requireArgument 1 = .ok (.iload_n 1, 1) := by decide +kernel
theorem dX7_requireArgument_2 : decode cX7_requireArgument 2 = .ok (.if_icmp .lt 8, 3) := by decide +kernel
theorem dX7_requireArgument_5 : decode cX7_requireArgument 5 = .ok (.iload_n 0, 1) := by decide +kernel
theorem dX7_requireArgument_6 : decode cX7_requireArgument 6 = .ok (.iload_n 2, 1) := by decide +kernel
theorem dX7_requireArgument_7 : decode cX7_requireArgument 7 = .ok (.if_icmp .le 13, 3) := by decide +kernel
theorem dX7_requireArgument_10 : decode cX7_requireArgument 10 = .ok (.new 189, 3) := by decide +kernel
theorem dX7_requireArgument_13 : decode cX7_requireArgument 13 = .ok (.dup, 1) := by decide +kernel
theorem dX7_requireArgument_14 : decode cX7_requireArgument 14 = .ok (.ldc 244, 2) := by decide +kernel
theorem dX7_requireArgument_16 : decode cX7_requireArgument 16 = .ok (.invokespecial 193, 3) := by decide +kernel
theorem dX7_requireArgument_19 : decode cX7_requireArgument 19 = .ok (.athrow, 1) := by decide +kernel
theorem dX7_requireArgument_20 : decode cX7_requireArgument 20 = .ok (.return_, 1) := by decide +kernel
theorem dX7_requireNumber_0 : decode cX7_requireNumber 0 = .ok (.iload_n 0, 1) := by decide +kernel
theorem dX7_requireNumber_1 : decode cX7_requireNumber 1 = .ok (.ifCond .lt 8, 3) := by decide +kernel
theorem dX7_requireNumber_4 : decode cX7_requireNumber 4 = .ok (.iload_n 0, 1) := by decide +kernel
theorem dX7_requireNumber_5 : decode cX7_requireNumber 5 = .ok (.iload_n 1, 1) := by decide +kernel
theorem dX7_requireNumber_6 : decode cX7_requireNumber 6 = .ok (.if_icmp .lt 13, 3) := by decide +kernel
theorem dX7_requireNumber_9 : decode cX7_requireNumber 9 = .ok (.new 246, 3) := by decide +kernel
theorem dX7_requireNumber_12 : decode cX7_requireNumber 12 = .ok (.dup, 1) := by decide +kernel
theorem dX7_requireNumber_13 : decode cX7_requireNumber 13 = .ok (.ldc 248, 2) := by decide +kernel
theorem dX7_requireNumber_15 : decode cX7_requireNumber 15 = .ok (.invokespecial 250, 3) := by decide +kernel
theorem dX7_requireNumber_18 : decode cX7_requireNumber 18 = .ok (.athrow, 1) := by decide +kernel
theorem dX7_requireNumber_19 : decode cX7_requireNumber 19 = .ok (.return_, 1) := by decide +kernel
theorem dX7_hasBit_0 : decode cX7_hasBit 0 = .ok (.iload_n 0, 1) := by decide +kernel
theorem dX7_hasBit_1 : decode cX7_hasBit 1 = .ok (.iload_n 1, 1) := by decide +kernel
theorem dX7_hasBit_2 : decode cX7_hasBit 2 = .ok (.ishr, 1) := by decide +kernel
theorem dX7_hasBit_3 : decode cX7_hasBit 3 = .ok (.iconst 1, 1) := by decide +kernel
theorem dX7_hasBit_4 : decode cX7_hasBit 4 = .ok (.iand, 1) := by decide +kernel
theorem dX7_hasBit_5 : decode cX7_hasBit 5 = .ok (.ifCond .eq 7, 3) := by decide +kernel
theorem dX7_hasBit_8 : decode cX7_hasBit 8 = .ok (.iconst 1, 1) := by decide +kernel
theorem dX7_hasBit_9 : decode cX7_hasBit 9 = .ok (.goto 4, 3) := by decide +kernel
theorem dX7_hasBit_12 : decode cX7_hasBit 12 = .ok (.iconst 0, 1) := by decide +kernel
theorem dX7_hasBit_13 : decode cX7_hasBit 13 = .ok (.ireturn, 1) := by decide +kernel
theorem dX7_mixed_0 : decode cX7_mixed 0 = .ok (.ldc2_w 251, 3) := by decide +kernel
theorem dX7_mixed_3 : decode cX7_mixed 3 = .ok (.lload_n 0, 1) := by decide +kernel
theorem dX7_mixed_4 : decode cX7_mixed 4 = .ok (.lmul, 1) := by decide +kernel
theorem dX7_mixed_5 : decode cX7_mixed 5 = .ok (.iload_n 2, 1) := by decide +kernel
theorem dX7_mixed_6 : decode cX7_mixed 6 = .ok (.i2l, 1) := by decide +kernel
theorem dX7_mixed_7 : decode cX7_mixed 7 = .ok (.ladd, 1) := by decide +kernel
theorem dX7_mixed_8 : decode cX7_mixed 8 = .ok (.lreturn, 1) := by decide +kernel
theorem dX7_afterSampleTick_0 : decode cX7_afterSampleTick 0 = .ok (.iload_n 1, 1) := by decide +kernel
theorem dX7_afterSampleTick_1 : decode cX7_afterSampleTick 1 = .ok (.iload_n 0, 1) := by decide +kernel
theorem dX7_afterSampleTick_2 : decode cX7_afterSampleTick 2 = .ok (.isub, 1) := by decide +kernel
theorem dX7_afterSampleTick_3 : decode cX7_afterSampleTick 3 = .ok (.iload_n 2, 1) := by decide +kernel
theorem dX7_afterSampleTick_4 : decode cX7_afterSampleTick 4 = .ok (.imul, 1) := by decide +kernel
theorem dX7_afterSampleTick_5 : decode cX7_afterSampleTick 5 = .ok (.bipush 16, 2) := by decide +kernel
theorem dX7_afterSampleTick_7 : decode cX7_afterSampleTick 7 = .ok (.idiv, 1) := by decide +kernel
theorem dX7_afterSampleTick_8 : decode cX7_afterSampleTick 8 = .ok (.istore_n 3, 1) := by decide +kernel
theorem dX7_afterSampleTick_9 : decode cX7_afterSampleTick 9 = .ok (.iload_n 3, 1) := by decide +kernel
theorem dX7_afterSampleTick_10 : decode cX7_afterSampleTick 10 = .ok (.ifCond .ne 19, 3) := by decide +kernel
theorem dX7_afterSampleTick_13 : decode cX7_afterSampleTick 13 = .ok (.iload_n 1, 1) := by decide +kernel
theorem dX7_afterSampleTick_14 : decode cX7_afterSampleTick 14 = .ok (.iload_n 0, 1) := by decide +kernel
theorem dX7_afterSampleTick_15 : decode cX7_afterSampleTick 15 = .ok (.if_icmp .eq 14, 3) := by decide +kernel
theorem dX7_afterSampleTick_18 : decode cX7_afterSampleTick 18 = .ok (.iload_n 1, 1) := by decide +kernel
theorem dX7_afterSampleTick_19 : decode cX7_afterSampleTick 19 = .ok (.iload_n 0, 1) := by decide +kernel
theorem dX7_afterSampleTick_20 : decode cX7_afterSampleTick 20 = .ok (.if_icmp .le 7, 3) := by decide +kernel
theorem dX7_afterSampleTick_23 : decode cX7_afterSampleTick 23 = .ok (.iconst 1, 1) := by decide +kernel
theorem dX7_afterSampleTick_24 : decode cX7_afterSampleTick 24 = .ok (.goto 4, 3) := by decide +kernel
theorem dX7_afterSampleTick_27 : decode cX7_afterSampleTick 27 = .ok (.iconst (-1), 1) := by decide +kernel
theorem dX7_afterSampleTick_28 : decode cX7_afterSampleTick 28 = .ok (.istore_n 3, 1) := by decide +kernel
theorem dX7_afterSampleTick_29 : decode cX7_afterSampleTick 29 = .ok (.iload_n 0, 1) := by decide +kernel
theorem dX7_afterSampleTick_30 : decode cX7_afterSampleTick 30 = .ok (.iload_n 3, 1) := by decide +kernel
theorem dX7_afterSampleTick_31 : decode cX7_afterSampleTick 31 = .ok (.iadd, 1) := by decide +kernel
theorem dX7_afterSampleTick_32 : decode cX7_afterSampleTick 32 = .ok (.ireturn, 1) := by decide +kernel
theorem dX7_afterHoldTick_0 : decode cX7_afterHoldTick 0 = .ok (.iload_n 0, 1) := by decide +kernel
theorem dX7_afterHoldTick_1 : decode cX7_afterHoldTick 1 = .ok (.iload_n 0, 1) := by decide +kernel
theorem dX7_afterHoldTick_2 : decode cX7_afterHoldTick 2 = .ok (.iload_n 1, 1) := by decide +kernel
theorem dX7_afterHoldTick_3 : decode cX7_afterHoldTick 3 = .ok (.imul, 1) := by decide +kernel
theorem dX7_afterHoldTick_4 : decode cX7_afterHoldTick 4 = .ok (.sipush 4096, 3) := by decide +kernel
theorem dX7_afterHoldTick_7 : decode cX7_afterHoldTick 7 = .ok (.idiv, 1) := by decide +kernel
theorem dX7_afterHoldTick_8 : decode cX7_afterHoldTick 8 = .ok (.isub, 1) := by decide +kernel
theorem dX7_afterHoldTick_9 : decode cX7_afterHoldTick 9 = .ok (.ireturn, 1) := by decide +kernel
set_option maxRecDepth 20000 in
theorem ggX7_weighNow_X4_run : GoodIn wsX7_weighNow wsX4_run := goodIn_r _ [12, 13, 14, 15, 16, 17, 18, 19, 20, 21, 22, 35, 36, 37, 38, 39] (by decide +kernel) (by decide +kernel)
set_option maxRecDepth 20000 in
theorem gX7_weighNow_X4_run : GoodIn wsX7_weighNow (wsV RX7 253 RX4 yX4_run wsX4_run) := goodIn_app (goodIn_of _ (by decide +kernel)) ggX7_weighNow_X4_run
theorem dX7_weighNow_0 : decode cX7_weighNow 0 = .ok (.aload_n 0, 1) := by decide +kernel
theorem dX7_weighNow_1 : decode cX7_weighNow 1 = .ok (.getfield 33, 3) := by decide +kernel
theorem dX7_weighNow_4 : decode cX7_weighNow 4 = .ok (.aload_n 0, 1) := by decide +kernel
theorem dX7_weighNow_5 : decode cX7_weighNow 5 = .ok (.getfield 10, 3) := by decide +kernel
theorem dX7_weighNow_8 : decode cX7_weighNow 8 = .ok (.getfield 85, 3) := by decide +kernel
theorem dX7_weighNow_11 : decode cX7_weighNow 11 = .ok (.aload_n 0, 1) := by decide +kernel
theorem dX7_weighNow_12 : decode cX7_weighNow 12 = .ok (.getfield 10, 3) := by decide +kernel
theorem dX7_weighNow_15 : decode cX7_weighNow 15 = .ok (.getfield 53, 3) := by decide +kernel
theorem dX7_weighNow_18 : decode cX7_weighNow 18 = .ok (.aload_n 0, 1) := by decide +kernel
theorem dX7_weighNow_19 : decode cX7_weighNow 19 = .ok (.getfield 10, 3) := by decide +kernel
theorem dX7_weighNow_22 : decode cX7_weighNow 22 = .ok (.getfield 64, 3) := by decide +kernel
theorem dX7_weighNow_25 : decode cX7_weighNow 25 = .ok (.aload_n 0, 1) := by decide +kernel
theorem dX7_weighNow_26 : decode cX7_weighNow 26 = .ok (.getfield 10, 3) := by decide +kernel
theorem dX7_weighNow_29 : decode cX7_weighNow 29 = .ok (.getfield 71, 3) := by decide +kernel
theorem dX7_weighNow_32 : decode cX7_weighNow 32 = .ok (.aload_n 0, 1) := by decide +kernel
theorem dX7_weighNow_33 : decode cX7_weighNow 33 = .ok (.getfield 10, 3) := by decide +kernel
theorem dX7_weighNow_36 : decode cX7_weighNow 36 = .ok (.getfield 78, 3) := by decide +kernel
theorem dX7_weighNow_39 : decode cX7_weighNow 39 = .ok (.invokevirtual 253, 3) := by decide +kernel
theorem dX7_weighNow_42 : decode cX7_weighNow 42 = .ok (.return_, 1) := by decide +kernel
set_option maxRecDepth 20000 in
theorem ggX7_steadyCode_X4_run : GoodIn wsX7_steadyCode wsX4_run := goodIn_r _ [9, 10, 11, 12, 13, 14, 15, 16, 17, 18, 19, 32, 33, 34, 35, 36] (by decide +kernel) (by decide +kernel)
set_option maxRecDepth 20000 in
theorem gX7_steadyCode_X4_run : GoodIn wsX7_steadyCode (wsV RX7 253 RX4 yX4_run wsX4_run) := goodIn_app (goodIn_of _ (by decide +kernel)) ggX7_steadyCode_X4_run
theorem dX7_steadyCode_0 : decode cX7_steadyCode 0 = .ok (.aload_n 0, 1) := by decide +kernel
theorem dX7_steadyCode_1 : decode cX7_steadyCode 1 = .ok (.getfield 33, 3) := by decide +kernel
theorem dX7_steadyCode_4 : decode cX7_steadyCode 4 = .ok (.aload_n 0, 1) := by decide +kernel
theorem dX7_steadyCode_5 : decode cX7_steadyCode 5 = .ok (.getfield 10, 3) := by decide +kernel
theorem dX7_steadyCode_8 : decode cX7_steadyCode 8 = .ok (.getfield 85, 3) := by decide +kernel
theorem dX7_steadyCode_11 : decode cX7_steadyCode 11 = .ok (.iload_n 1, 1) := by decide +kernel
theorem dX7_steadyCode_12 : decode cX7_steadyCode 12 = .ok (.iconst 0, 1) := by decide +kernel
theorem dX7_steadyCode_13 : decode cX7_steadyCode 13 = .ok (.iconst 0, 1) := by decide +kernel
theorem dX7_steadyCode_14 : decode cX7_steadyCode 14 = .ok (.iload_n 2, 1) := by decide +kernel
theorem dX7_steadyCode_15 : decode cX7_steadyCode 15 = .ok (.invokevirtual 253, 3) := by decide +kernel
theorem dX7_steadyCode_18 : decode cX7_steadyCode 18 = .ok (.aload_n 0, 1) := by decide +kernel
theorem dX7_steadyCode_19 : decode cX7_steadyCode 19 = .ok (.getfield 33, 3) := by decide +kernel
theorem dX7_steadyCode_22 : decode cX7_steadyCode 22 = .ok (.getfield 135, 3) := by decide +kernel
theorem dX7_steadyCode_25 : decode cX7_steadyCode 25 = .ok (.ireturn, 1) := by decide +kernel
theorem dJ13_bitCount_95d88_0 : decode cJ13_bitCount_95d88 0 = .ok (.lload_n 0, 1) := by decide +kernel
theorem dJ13_bitCount_95d88_1 : decode cJ13_bitCount_95d88 1 = .ok (.lload_n 0, 1) := by decide +kernel
theorem dJ13_bitCount_95d88_2 : decode cJ13_bitCount_95d88 2 = .ok (.iconst 1, 1) := by decide +kernel
theorem dJ13_bitCount_95d88_3 : decode cJ13_bitCount_95d88 3 = .ok (.lushr, 1) := by decide +kernel
theorem dJ13_bitCount_95d88_4 : decode cJ13_bitCount_95d88 4 = .ok (.ldc2_w 314, 3) := by decide +kernel
theorem dJ13_bitCount_95d88_7 : decode cJ13_bitCount_95d88 7 = .ok (.land, 1) := by decide +kernel
theorem dJ13_bitCount_95d88_8 : decode cJ13_bitCount_95d88 8 = .ok (.lsub, 1) := by decide +kernel
theorem dJ13_bitCount_95d88_9 : decode cJ13_bitCount_95d88 9 = .ok (.lstore_n 0, 1) := by decide +kernel
theorem dJ13_bitCount_95d88_10 : decode cJ13_bitCount_95d88 10 = .ok (.lload_n 0, 1) := by decide +kernel
theorem dJ13_bitCount_95d88_11 : decode cJ13_bitCount_95d88 11 = .ok (.ldc2_w 316, 3) := by decide +kernel
theorem dJ13_bitCount_95d88_14 : decode cJ13_bitCount_95d88 14 = .ok (.land, 1) := by decide +kernel
theorem dJ13_bitCount_95d88_15 : decode cJ13_bitCount_95d88 15 = .ok (.lload_n 0, 1) := by decide +kernel
theorem dJ13_bitCount_95d88_16 : decode cJ13_bitCount_95d88 16 = .ok (.iconst 2, 1) := by decide +kernel
theorem dJ13_bitCount_95d88_17 : decode cJ13_bitCount_95d88 17 = .ok (.lushr, 1) := by decide +kernel
theorem dJ13_bitCount_95d88_18 : decode cJ13_bitCount_95d88 18 = .ok (.ldc2_w 316, 3) := by decide +kernel
theorem dJ13_bitCount_95d88_21 : decode cJ13_bitCount_95d88 21 = .ok (.land, 1) := by decide +kernel
theorem dJ13_bitCount_95d88_22 : decode cJ13_bitCount_95d88 22 = .ok (.ladd, 1) := by decide +kernel
theorem dJ13_bitCount_95d88_23 : decode cJ13_bitCount_95d88 23 = .ok (.lstore_n 0, 1) := by decide +kernel
theorem dJ13_bitCount_95d88_24 : decode cJ13_bitCount_95d88 24 = .ok (.lload_n 0, 1) := by decide +kernel
theorem dJ13_bitCount_95d88_25 : decode cJ13_bitCount_95d88 25 = .ok (.lload_n 0, 1) := by decide +kernel
theorem dJ13_bitCount_95d88_26 : decode cJ13_bitCount_95d88 26 = .ok (.iconst 4, 1) := by decide +kernel
theorem dJ13_bitCount_95d88_27 : decode cJ13_bitCount_95d88 27 = .ok (.lushr, 1) := by decide +kernel
theorem dJ13_bitCount_95d88_28 : decode cJ13_bitCount_95d88 28 = .ok (.ladd, 1) := by decide +kernel
theorem dJ13_bitCount_95d88_29 : decode cJ13_bitCount_95d88 29 = .ok (.ldc2_w 318, 3) := by decide +kernel
theorem dJ13_bitCount_95d88_32 : decode cJ13_bitCount_95d88 32 = .ok (.land, 1) := by decide +kernel
theorem dJ13_bitCount_95d88_33 : decode cJ13_bitCount_95d88 33 = .ok (.lstore_n 0, 1) := by decide +kernel
theorem dJ13_bitCount_95d88_34 : decode cJ13_bitCount_95d88 34 = .ok (.lload_n 0, 1) := by decide +kernel
theorem dJ13_bitCount_95d88_35 : decode cJ13_bitCount_95d88 35 = .ok (.lload_n 0, 1) := by decide +kernel
theorem dJ13_bitCount_95d88_36 : decode cJ13_bitCount_95d88 36 = .ok (.bipush 8, 2) := by decide +kernel
theorem dJ13_bitCount_95d88_38 : decode cJ13_bitCount_95d88 38 = .ok (.lushr, 1) := by decide +kernel
theorem dJ13_bitCount_95d88_39 : decode cJ13_bitCount_95d88 39 = .ok (.ladd, 1) := by decide +kernel
theorem dJ13_bitCount_95d88_40 : decode cJ13_bitCount_95d88 40 = .ok (.lstore_n 0, 1) := by decide +kernel
theorem dJ13_bitCount_95d88_41 : decode cJ13_bitCount_95d88 41 = .ok (.lload_n 0, 1) := by decide +kernel
theorem dJ13_bitCount_95d88_42 : decode cJ13_bitCount_95d88 42 = .ok (.lload_n 0, 1) := by decide +kernel
theorem dJ13_bitCount_95d88_43 : decode cJ13_bitCount_95d88 43 = .ok (.bipush 16, 2) := by decide +kernel
theorem dJ13_bitCount_95d88_45 : decode cJ13_bitCount_95d88 45 = .ok (.lushr, 1) := by decide +kernel
theorem dJ13_bitCount_95d88_46 : decode cJ13_bitCount_95d88 46 = .ok (.ladd, 1) := by decide +kernel
theorem dJ13_bitCount_95d88_47 : decode cJ13_bitCount_95d88 47 = .ok (.lstore_n 0, 1) := by decide +kernel
theorem dJ13_bitCount_95d88_48 : decode cJ13_bitCount_95d88 48 = .ok (.lload_n 0, 1) := by decide +kernel
theorem dJ13_bitCount_95d88_49 : decode cJ13_bitCount_95d88 49 = .ok (.lload_n 0, 1) := by decide +kernel
theorem dJ13_bitCount_95d88_50 : decode cJ13_bitCount_95d88 50 = .ok (.bipush 32, 2) := by decide +kernel
theorem dJ13_bitCount_95d88_52 : decode cJ13_bitCount_95d88 52 = .ok (.lushr, 1) := by decide +kernel
theorem dJ13_bitCount_95d88_53 : decode cJ13_bitCount_95d88 53 = .ok (.ladd, 1) := by decide +kernel
theorem dJ13_bitCount_95d88_54 : decode cJ13_bitCount_95d88 54 = .ok (.lstore_n 0, 1) := by decide +kernel
theorem dJ13_bitCount_95d88_55 : decode cJ13_bitCount_95d88 55 = .ok (.lload_n 0, 1) := by decide +kernel
theorem dJ13_bitCount_95d88_56 : decode cJ13_bitCount_95d88 56 = .ok (.l2i, 1) := by decide +kernel
theorem dJ13_bitCount_95d88_57 : decode cJ13_bitCount_95d88 57 = .ok (.bipush 127, 2) := by decide +kernel
theorem dJ13_bitCount_95d88_59 : decode cJ13_bitCount_95d88 59 = .ok (.iand, 1) := by decide +kernel
theorem dJ13_bitCount_95d88_60 : decode cJ13_bitCount_95d88 60 = .ok (.ireturn, 1) := by decide +kernel
theorem dJ9_abs_0f7a4_0 : decode cJ9_abs_0f7a4 0 = .ok (.iload_n 0, 1) := by decide +kernel
theorem dJ9_abs_0f7a4_1 : decode cJ9_abs_0f7a4 1 = .ok (.ifCond .ge 8, 3) := by decide +kernel
theorem dJ9_abs_0f7a4_4 : decode cJ9_abs_0f7a4 4 = .ok (.iload_n 0, 1) := by decide +kernel
theorem dJ9_abs_0f7a4_5 : decode cJ9_abs_0f7a4 5 = .ok (.ineg, 1) := by decide +kernel
theorem dJ9_abs_0f7a4_6 : decode cJ9_abs_0f7a4 6 = .ok (.goto 4, 3) := by decide +kernel
theorem dJ9_abs_0f7a4_9 : decode cJ9_abs_0f7a4 9 = .ok (.iload_n 0, 1) := by decide +kernel
theorem dJ9_abs_0f7a4_10 : decode cJ9_abs_0f7a4 10 = .ok (.ireturn, 1) := by decide +kernel
theorem dJ9_min_7cf53_0 : decode cJ9_min_7cf53 0 = .ok (.iload_n 0, 1) := by decide +kernel
theorem dJ9_min_7cf53_1 : decode cJ9_min_7cf53 1 = .ok (.iload_n 1, 1) := by decide +kernel
theorem dJ9_min_7cf53_2 : decode cJ9_min_7cf53 2 = .ok (.if_icmp .gt 7, 3) := by decide +kernel
theorem dJ9_min_7cf53_5 : decode cJ9_min_7cf53 5 = .ok (.iload_n 0, 1) := by decide +kernel
theorem dJ9_min_7cf53_6 : decode cJ9_min_7cf53 6 = .ok (.goto 4, 3) := by decide +kernel
theorem dJ9_min_7cf53_9 : decode cJ9_min_7cf53 9 = .ok (.iload_n 1, 1) := by decide +kernel
theorem dJ9_min_7cf53_10 : decode cJ9_min_7cf53 10 = .ok (.ireturn, 1) := by decide +kernel
theorem dL_cell_0 : decode cL_cell 0 = .ok (.iload_n 1, 1) := by decide +kernel
theorem dL_cell_1 : decode cL_cell 1 = .ok (.aload_n 0, 1) := by decide +kernel
theorem dL_cell_2 : decode cL_cell 2 = .ok (.arraylength, 1) := by decide +kernel
theorem dL_cell_3 : decode cL_cell 3 = .ok (.if_icmp .ge 9, 3) := by decide +kernel
theorem dL_cell_6 : decode cL_cell 6 = .ok (.aload_n 0, 1) := by decide +kernel
theorem dL_cell_7 : decode cL_cell 7 = .ok (.iload_n 1, 1) := by decide +kernel
theorem dL_cell_8 : decode cL_cell 8 = .ok (.iaload, 1) := by decide +kernel
theorem dL_cell_9 : decode cL_cell 9 = .ok (.goto 14, 3) := by decide +kernel
theorem dL_cell_12 : decode cL_cell 12 = .ok (.ldc 7, 2) := by decide +kernel
theorem dL_cell_14 : decode cL_cell 14 = .ok (.iload_n 1, 1) := by decide +kernel
theorem dL_cell_15 : decode cL_cell 15 = .ok (.sipush 311, 3) := by decide +kernel
theorem dL_cell_18 : decode cL_cell 18 = .ok (.iadd, 1) := by decide +kernel
theorem dL_cell_19 : decode cL_cell 19 = .ok (.imul, 1) := by decide +kernel
theorem dL_cell_20 : decode cL_cell 20 = .ok (.ldc 8, 2) := by decide +kernel
theorem dL_cell_22 : decode cL_cell 22 = .ok (.iadd, 1) := by decide +kernel
theorem dL_cell_23 : decode cL_cell 23 = .ok (.ldc 9, 2) := by decide +kernel
theorem dL_cell_25 : decode cL_cell 25 = .ok (.iand, 1) := by decide +kernel
theorem dL_cell_26 : decode cL_cell 26 = .ok (.ireturn, 1) := by decide +kernel
set_option maxRecDepth 20000 in
theorem ggL_call_X7_sample : GoodIn wsL_call wsX7_sample := goodIn_ca (goodIn_r _ [8, 9, 10, 11, 12, 13, 14, 15, 7, 16, 17, 18, 19, 20, 21, 22, 23, 24, 25, 26, 27, 28, 29, 30, 31, 32, 33, 34, 35, 36, 37, 38, 39, 40, 41, 42, 43, 44, 45, 46, 47, 48, 49, 50, 51, 52, 53, 54, 55, 56, 57, 58, 59, 60, 61, 62, 63, 64, 65, 66, 165, 166, 167, 168, 169, 170, 171, 172, 173, 174, 175, 176, 177, 178, 179, 180, 181, 182, 183, 184, 185] (by decide +kernel) (by decide +kernel)) (goodIn_sub (fun _ h => List.mem_cons_of_mem _ (List.mem_append_left _ (List.mem_append_left _ (List.mem_append_right _ h)))) (by decide +kernel))
set_option maxRecDepth 20000 in
theorem gL_call_X7_sample : GoodIn wsL_call (wsV RL 10 RX7 yX7_sample wsX7_sample) := goodIn_app (goodIn_of _ (by decide +kernel)) ggL_call_X7_sample
set_option maxRecDepth 20000 in
theorem ggL_call_X7_hold : GoodIn wsL_call wsX7_hold := goodIn_ca (goodIn_r _ [70, 10, 11, 12, 71, 14, 15, 7, 16, 17, 18, 19, 20, 21, 22, 23, 24, 25, 26, 27, 28, 29, 30, 31, 32, 33, 34, 35, 36, 37, 38, 39, 40, 41, 42, 43, 44, 45, 46, 47, 48, 49, 50, 51, 52, 53, 54, 55, 56, 57, 58, 59, 60, 61, 62, 63, 72, 73, 74, 165, 166, 167, 168, 169, 170, 171, 172, 173, 174, 175, 176, 177, 178, 179, 180, 181, 182, 183, 184, 185] (by decide +kernel) (by decide +kernel)) (goodIn_sub (fun _ h => List.mem_cons_of_mem _ (List.mem_append_left _ (List.mem_append_left _ (List.mem_append_right _ h)))) (by decide +kernel))
set_option maxRecDepth 20000 in
theorem gL_call_X7_hold : GoodIn wsL_call (wsV RL 16 RX7 yX7_hold wsX7_hold) := goodIn_app (goodIn_of _ (by decide +kernel)) ggL_call_X7_hold
set_option maxRecDepth 20000 in
theorem ggL_call_X7_setCapacitor : GoodIn wsL_call wsX7_setCapacitor := goodIn_ca (goodIn_r _ [78, 10, 11, 13, 71, 14, 15, 7, 16, 17, 18, 19, 20, 21, 22, 23, 24, 25, 26, 27, 28, 29, 30, 31, 32, 33, 34, 35, 36, 37, 38, 39, 40, 41, 42, 43, 44, 45, 46, 47, 48, 49, 50, 51, 52, 53, 54, 55, 56, 57, 58, 59, 60, 61, 62, 63, 165, 166, 167, 168, 169, 170, 171, 172, 173, 174, 175, 176, 177, 178, 179, 180, 181, 182, 183, 184, 185] (by decide +kernel) (by decide +kernel)) (goodIn_sub (fun _ h => List.mem_cons_of_mem _ (List.mem_append_left _ (List.mem_append_left _ (List.mem_append_right _ h)))) (by decide +kernel))
set_option maxRecDepth 20000 in
theorem gL_call_X7_setCapacitor : GoodIn wsL_call (wsV RL 20 RX7 yX7_setCapacitor wsX7_setCapacitor) := goodIn_app (goodIn_of _ (by decide +kernel)) ggL_call_X7_setCapacitor
set_option maxRecDepth 20000 in
theorem ggL_call_X7_setOffset : GoodIn wsL_call wsX7_setOffset := goodIn_ca (goodIn_r _ [82, 10, 11, 83, 14, 15, 7, 16, 17, 18, 19, 20, 21, 22, 23, 24, 25, 26, 27, 28, 29, 30, 31, 32, 33, 34, 35, 36, 37, 38, 39, 40, 41, 42, 43, 44, 45, 46, 47, 48, 49, 50, 51, 52, 53, 54, 55, 56, 57, 58, 59, 60, 61, 62, 63, 165, 166, 167, 168, 169, 170, 171, 172, 173, 174, 175, 176, 177, 178, 179, 180, 181, 182, 183, 184, 185] (by decide +kernel) (by decide +kernel)) (goodIn_sub (fun _ h => List.mem_cons_of_mem _ (List.mem_append_left _ (List.mem_append_left _ (List.mem_append_right _ h)))) (by decide +kernel))
set_option maxRecDepth 20000 in
theorem gL_call_X7_setOffset : GoodIn wsL_call (wsV RL 23 RX7 yX7_setOffset wsX7_setOffset) := goodIn_app (goodIn_of _ (by decide +kernel)) ggL_call_X7_setOffset
set_option maxRecDepth 20000 in
theorem ggL_call_X7_setGlitch : GoodIn wsL_call wsX7_setGlitch := goodIn_ca (goodIn_r _ [87, 10, 11, 88, 89, 90, 7, 91, 92, 93, 19, 20, 21, 22, 23, 24, 25, 26, 27, 28, 29, 30, 31, 32, 33, 34, 35, 36, 37, 38, 39, 40, 41, 42, 43, 44, 45, 46, 47, 48, 49, 50, 51, 52, 53, 54, 55, 56, 57, 58, 59, 60, 61, 62, 63, 94, 95, 96, 165, 166, 167, 168, 169, 170, 171, 172, 173, 174, 175, 176, 177, 178, 179, 180, 181, 182, 183, 184, 185] (by decide +kernel) (by decide +kernel)) (goodIn_sub (fun _ h => List.mem_cons_of_mem _ (List.mem_append_left _ (List.mem_append_right _ h))) (by decide +kernel))
set_option maxRecDepth 20000 in
theorem gL_call_X7_setGlitch : GoodIn wsL_call (wsV RL 26 RX7 yX7_setGlitch wsX7_setGlitch) := goodIn_app (goodIn_of _ (by decide +kernel)) ggL_call_X7_setGlitch
set_option maxRecDepth 20000 in
theorem ggL_call_X7_setWeight : GoodIn wsL_call wsX7_setWeight := goodIn_ca (goodIn_ca (goodIn_r _ [100, 11, 101, 102, 10, 103, 89, 90, 7, 91, 92, 93, 14, 15, 16, 17, 18, 19, 20, 21, 22, 23, 24, 25, 26, 27, 28, 29, 30, 31, 32, 33, 34, 35, 36, 37, 38, 39, 40, 41, 42, 43, 44, 45, 46, 47, 48, 49, 50, 51, 52, 53, 54, 55, 56, 57, 58, 59, 60, 61, 62, 63, 165, 166, 167, 168, 169, 170, 171, 172, 173, 174, 175, 176, 180, 181, 177, 178, 179, 182, 183, 184, 185] (by decide +kernel) (by decide +kernel)) (goodIn_sub (fun _ h => List.mem_cons_of_mem _ (List.mem_append_left _ (List.mem_append_right _ h))) (by decide +kernel))) (goodIn_sub (fun _ h => List.mem_cons_of_mem _ (List.mem_append_left _ (List.mem_append_left _ (List.mem_append_right _ h)))) (by decide +kernel))
set_option maxRecDepth 20000 in
theorem gL_call_X7_setWeight : GoodIn wsL_call (wsV RL 30 RX7 yX7_setWeight wsX7_setWeight) := goodIn_app (goodIn_of _ (by decide +kernel)) ggL_call_X7_setWeight
set_option maxRecDepth 20000 in
theorem ggL_call_X7_insertWeight : GoodIn wsL_call wsX7_insertWeight := goodIn_ca (goodIn_ca (goodIn_ca (goodIn_r _ [107, 108, 109, 11, 101, 102, 10, 89, 90, 7, 91, 92, 93, 14, 15, 16, 17, 18, 19, 20, 21, 22, 23, 24, 25, 26, 27, 28, 29, 30, 31, 32, 33, 34, 35, 36, 37, 38, 39, 40, 41, 42, 43, 44, 45, 46, 47, 48, 49, 50, 51, 52, 53, 54, 55, 56, 57, 58, 59, 60, 61, 62, 63, 110, 111, 112, 113, 165, 166, 167, 168, 169, 170, 171, 172, 173, 174, 175, 176, 180, 181, 177, 178, 179, 182, 183, 184, 185] (by decide +kernel) (by decide +kernel)) (goodIn_sub (fun _ h => List.mem_cons_of_mem _ (List.mem_append_right _ h)) (by decide +kernel))) (goodIn_sub (fun _ h => List.mem_cons_of_mem _ (List.mem_append_left _ (List.mem_append_right _ h))) (by decide +kernel))) (goodIn_sub (fun _ h => List.mem_cons_of_mem _ (List.mem_append_left _ (List.mem_append_left _ (List.mem_append_right _ h)))) (by decide +kernel))
set_option maxRecDepth 20000 in
theorem gL_call_X7_insertWeight : GoodIn wsL_call (wsV RL 33 RX7 yX7_insertWeight wsX7_insertWeight) := goodIn_app (goodIn_of _ (by decide +kernel)) ggL_call_X7_insertWeight
set_option maxRecDepth 20000 in
theorem ggL_call_X7_removeWeight : GoodIn wsL_call wsX7_removeWeight := goodIn_ca (goodIn_ca (goodIn_r _ [117, 108, 109, 11, 101, 102, 10, 89, 90, 7, 91, 92, 93, 19, 20, 21, 22, 23, 24, 25, 26, 27, 28, 29, 30, 31, 32, 33, 34, 35, 36, 37, 38, 39, 40, 41, 42, 43, 44, 45, 46, 47, 48, 49, 50, 51, 52, 53, 54, 55, 56, 57, 58, 59, 60, 61, 62, 63, 118, 119, 120, 121, 165, 166, 167, 168, 169, 170, 171, 172, 173, 174, 175, 176, 180, 181, 177, 178, 179, 182, 183, 184, 185] (by decide +kernel) (by decide +kernel)) (goodIn_sub (fun _ h => List.mem_cons_of_mem _ (List.mem_append_right _ h)) (by decide +kernel))) (goodIn_sub (fun _ h => List.mem_cons_of_mem _ (List.mem_append_left _ (List.mem_append_right _ h))) (by decide +kernel))
set_option maxRecDepth 20000 in
theorem gL_call_X7_removeWeight : GoodIn wsL_call (wsV RL 36 RX7 yX7_removeWeight wsX7_removeWeight) := goodIn_app (goodIn_of _ (by decide +kernel)) ggL_call_X7_removeWeight
set_option maxRecDepth 20000 in
theorem ggL_call_X7_append : GoodIn wsL_call wsX7_append := goodIn_ca (goodIn_ca (goodIn_r _ [125, 108, 109, 126, 127, 14, 15, 7, 16, 17, 18, 128, 129, 130, 131, 132, 133, 134, 165, 166, 167, 168, 169, 186, 187] (by decide +kernel) (by decide +kernel)) (goodIn_sub (fun _ h => List.mem_cons_of_mem _ (List.mem_append_right _ h)) (by decide +kernel))) (goodIn_sub (fun _ h => List.mem_cons_of_mem _ (List.mem_append_left _ (List.mem_append_left _ (List.mem_append_right _ h)))) (by decide +kernel))
set_option maxRecDepth 20000 in
theorem gL_call_X7_append : GoodIn wsL_call (wsV RL 39 RX7 yX7_append wsX7_append) := goodIn_app (goodIn_of _ (by decide +kernel)) ggL_call_X7_append
set_option maxRecDepth 20000 in
theorem ggL_call_X7_load : GoodIn wsL_call wsX7_load := goodIn_ca (goodIn_r _ [138, 17, 18, 126, 10, 11, 101, 127, 102, 139, 140, 141, 131, 142, 134, 133, 143, 144, 145, 146, 147, 148, 149, 19, 20, 21, 22, 23, 24, 25, 26, 27, 28, 29, 30, 31, 32, 33, 34, 35, 36, 37, 38, 39, 40, 41, 42, 43, 44, 45, 46, 47, 48, 49, 50, 51, 52, 53, 54, 55, 56, 57, 58, 59, 60, 61, 62, 63, 150, 151, 152, 153, 154, 155, 111, 112, 113, 165, 166, 167, 168, 169, 170, 171, 172, 173, 174, 175, 176, 186, 187, 180, 181, 177, 178, 179, 182, 183, 184, 185] (by decide +kernel) (by decide +kernel)) (goodIn_sub (fun _ h => List.mem_cons_of_mem _ (List.mem_append_left _ (List.mem_append_left _ (List.mem_append_right _ h)))) (by decide +kernel))
set_option maxRecDepth 20000 in
theorem gL_call_X7_load : GoodIn wsL_call (wsV RL 42 RX7 yX7_load wsX7_load) := goodIn_app (goodIn_of _ (by decide +kernel)) ggL_call_X7_load
set_option maxRecDepth 20000 in
theorem ggL_call_X7_undo : GoodIn wsL_call wsX7_undo := goodIn_ca (goodIn_r _ [159, 108, 109, 10, 160, 11, 161, 162, 163, 22, 164, 25, 24, 26, 31, 32, 33, 34, 35, 36, 37, 38, 39, 40, 41, 42, 43, 44, 45, 46, 47, 48, 49, 50, 51, 52, 53, 54, 55, 56, 57, 58, 59, 60, 61, 62, 63, 165, 166, 167, 168, 169, 177, 178, 179, 170, 171, 172, 173, 174, 175, 176, 180, 181, 182, 183, 184, 185] (by decide +kernel) (by decide +kernel)) (goodIn_sub (fun _ h => List.mem_cons_of_mem _ (List.mem_append_right _ h)) (by decide +kernel))
set_option maxRecDepth 20000 in
theorem gL_call_X7_undo : GoodIn wsL_call (wsV RL 46 RX7 yX7_undo wsX7_undo) := goodIn_app (goodIn_of _ (by decide +kernel)) ggL_call_X7_undo
theorem dL_call_0 : decode cL_call 0 = .ok (.iload_n 1, 1) := by decide +kernel
theorem dL_call_1 : decode cL_call 1 = .ok (.ifCond .ne 12, 3) := by decide +kernel
theorem dL_call_4 : decode cL_call 4 = .ok (.aload_n 0, 1) := by decide +kernel
theorem dL_call_5 : decode cL_call 5 = .ok (.iload_n 2, 1) := by decide +kernel
theorem dL_call_6 : decode cL_call 6 = .ok (.iload_n 3, 1) := by decide +kernel
theorem dL_call_7 : decode cL_call 7 = .ok (.invokevirtual 10, 3) := by decide +kernel
theorem dL_call_10 : decode cL_call 10 = .ok (.goto 138, 3) := by decide +kernel
theorem dL_call_13 : decode cL_call 13 = .ok (.iload_n 1, 1) := by decide +kernel
theorem dL_call_14 : decode cL_call 14 = .ok (.iconst 1, 1) := by decide +kernel
theorem dL_call_15 : decode cL_call 15 = .ok (.if_icmp .ne 11, 3) := by decide +kernel
theorem dL_call_18 : decode cL_call 18 = .ok (.aload_n 0, 1) := by decide +kernel
theorem dL_call_19 : decode cL_call 19 = .ok (.iload_n 2, 1) := by decide +kernel
theorem dL_call_20 : decode cL_call 20 = .ok (.invokevirtual 16, 3) := by decide +kernel
theorem dL_call_23 : decode cL_call 23 = .ok (.goto 125, 3) := by decide +kernel
theorem dL_call_26 : decode cL_call 26 = .ok (.iload_n 1, 1) := by decide +kernel
theorem dL_call_27 : decode cL_call 27 = .ok (.iconst 2, 1) := by decide +kernel
theorem dL_call_28 : decode cL_call 28 = .ok (.if_icmp .ne 12, 3) := by decide +kernel
theorem dL_call_31 : decode cL_call 31 = .ok (.aload_n 0, 1) := by decide +kernel
theorem dL_call_32 : decode cL_call 32 = .ok (.iload_n 2, 1) := by decide +kernel
theorem dL_call_33 : decode cL_call 33 = .ok (.iload_n 3, 1) := by decide +kernel
theorem dL_call_34 : decode cL_call 34 = .ok (.invokevirtual 20, 3) := by decide +kernel
theorem dL_call_37 : decode cL_call 37 = .ok (.goto 111, 3) := by decide +kernel
theorem dL_call_40 : decode cL_call 40 = .ok (.iload_n 1, 1) := by decide +kernel
theorem dL_call_41 : decode cL_call 41 = .ok (.iconst 3, 1) := by decide +kernel
theorem dL_call_42 : decode cL_call 42 = .ok (.if_icmp .ne 11, 3) := by decide +kernel
theorem dL_call_45 : decode cL_call 45 = .ok (.aload_n 0, 1) := by decide +kernel
theorem dL_call_46 : decode cL_call 46 = .ok (.iload_n 2, 1) := by decide +kernel
theorem dL_call_47 : decode cL_call 47 = .ok (.invokevirtual 23, 3) := by decide +kernel
theorem dL_call_50 : decode cL_call 50 = .ok (.goto 98, 3) := by decide +kernel
theorem dL_call_53 : decode cL_call 53 = .ok (.iload_n 1, 1) := by decide +kernel
theorem dL_call_54 : decode cL_call 54 = .ok (.iconst 4, 1) := by decide +kernel
theorem dL_call_55 : decode cL_call 55 = .ok (.if_icmp .ne 19, 3) := by decide +kernel
theorem dL_call_58 : decode cL_call 58 = .ok (.aload_n 0, 1) := by decide +kernel
theorem dL_call_59 : decode cL_call 59 = .ok (.iload_n 2, 1) := by decide +kernel
theorem dL_call_60 : decode cL_call 60 = .ok (.invokevirtual 26, 3) := by decide +kernel
theorem dL_call_63 : decode cL_call 63 = .ok (.ifCond .eq 7, 3) := by decide +kernel
theorem dL_call_66 : decode cL_call 66 = .ok (.iconst 1, 1) := by decide +kernel
theorem dL_call_67 : decode cL_call 67 = .ok (.goto 81, 3) := by decide +kernel
theorem dL_call_70 : decode cL_call 70 = .ok (.iconst 0, 1) := by decide +kernel
theorem dL_call_71 : decode cL_call 71 = .ok (.goto 77, 3) := by decide +kernel
theorem dL_call_74 : decode cL_call 74 = .ok (.iload_n 1, 1) := by decide +kernel
theorem dL_call_75 : decode cL_call 75 = .ok (.iconst 5, 1) := by decide +kernel
theorem dL_call_76 : decode cL_call 76 = .ok (.if_icmp .ne 12, 3) := by decide +kernel
theorem dL_call_79 : decode cL_call 79 = .ok (.aload_n 0, 1) := by decide +kernel
theorem dL_call_80 : decode cL_call 80 = .ok (.iload_n 2, 1) := by decide +kernel
theorem dL_call_81 : decode cL_call 81 = .ok (.iload_n 3, 1) := by decide +kernel
theorem dL_call_82 : decode cL_call 82 = .ok (.invokevirtual 30, 3) := by decide +kernel
theorem dL_call_85 : decode cL_call 85 = .ok (.goto 63, 3) := by decide +kernel
theorem dL_call_88 : decode cL_call 88 = .ok (.iload_n 1, 1) := by decide +kernel
theorem dL_call_89 : decode cL_call 89 = .ok (.bipush 6, 2) := by decide +kernel
theorem dL_call_91 : decode cL_call 91 = .ok (.if_icmp .ne 12, 3) := by decide +kernel
theorem dL_call_94 : decode cL_call 94 = .ok (.aload_n 0, 1) := by decide +kernel
theorem dL_call_95 : decode cL_call 95 = .ok (.iload_n 2, 1) := by decide +kernel
theorem dL_call_96 : decode cL_call 96 = .ok (.iload_n 3, 1) := by decide +kernel
theorem dL_call_97 : decode cL_call 97 = .ok (.invokevirtual 33, 3) := by decide +kernel
theorem dL_call_100 : decode cL_call 100 = .ok (.goto 48, 3) := by decide +kernel
theorem dL_call_103 : decode cL_call 103 = .ok (.iload_n 1, 1) := by decide +kernel
theorem dL_call_104 : decode cL_call 104 = .ok (.bipush 7, 2) := by decide +kernel
theorem dL_call_106 : decode cL_call 106 = .ok (.if_icmp .ne 11, 3) := by decide +kernel
theorem dL_call_109 : decode cL_call 109 = .ok (.aload_n 0, 1) := by decide +kernel
theorem dL_call_110 : decode cL_call 110 = .ok (.iload_n 2, 1) := by decide +kernel
theorem dL_call_111 : decode cL_call 111 = .ok (.invokevirtual 36, 3) := by decide +kernel
theorem dL_call_114 : decode cL_call 114 = .ok (.goto 34, 3) := by decide +kernel
theorem dL_call_117 : decode cL_call 117 = .ok (.iload_n 1, 1) := by decide +kernel
theorem dL_call_118 : decode cL_call 118 = .ok (.bipush 8, 2) := by decide +kernel
theorem dL_call_120 : decode cL_call 120 = .ok (.if_icmp .ne 11, 3) := by decide +kernel
theorem dL_call_123 : decode cL_call 123 = .ok (.aload_n 0, 1) := by decide +kernel
theorem dL_call_124 : decode cL_call 124 = .ok (.iload_n 2, 1) := by decide +kernel
theorem dL_call_125 : decode cL_call 125 = .ok (.invokevirtual 39, 3) := by decide +kernel
theorem dL_call_128 : decode cL_call 128 = .ok (.goto 20, 3) := by decide +kernel
theorem dL_call_131 : decode cL_call 131 = .ok (.iload_n 1, 1) := by decide +kernel
theorem dL_call_132 : decode cL_call 132 = .ok (.bipush 9, 2) := by decide +kernel
theorem dL_call_134 : decode cL_call 134 = .ok (.if_icmp .ne 10, 3) := by decide +kernel
theorem dL_call_137 : decode cL_call 137 = .ok (.aload_n 0, 1) := by decide +kernel
theorem dL_call_138 : decode cL_call 138 = .ok (.invokevirtual 42, 3) := by decide +kernel
theorem dL_call_141 : decode cL_call 141 = .ok (.goto 7, 3) := by decide +kernel
theorem dL_call_144 : decode cL_call 144 = .ok (.aload_n 0, 1) := by decide +kernel
theorem dL_call_145 : decode cL_call 145 = .ok (.invokevirtual 46, 3) := by decide +kernel
theorem dL_call_148 : decode cL_call 148 = .ok (.ireturn, 1) := by decide +kernel
theorem dL_call_149 : decode cL_call 149 = .ok (.astore 4, 2) := by decide +kernel
theorem dL_call_151 : decode cL_call 151 = .ok (.bipush (-10), 2) := by decide +kernel
theorem dL_call_153 : decode cL_call 153 = .ok (.ireturn, 1) := by decide +kernel
theorem dL_call_154 : decode cL_call 154 = .ok (.astore 4, 2) := by decide +kernel
theorem dL_call_156 : decode cL_call 156 = .ok (.bipush (-11), 2) := by decide +kernel
theorem dL_call_158 : decode cL_call 158 = .ok (.ireturn, 1) := by decide +kernel
theorem dL_call_159 : decode cL_call 159 = .ok (.astore 4, 2) := by decide +kernel
theorem dL_call_161 : decode cL_call 161 = .ok (.bipush (-12), 2) := by decide +kernel
theorem dL_call_163 : decode cL_call 163 = .ok (.ireturn, 1) := by decide +kernel
set_option maxRecDepth 20000 in
theorem ggL_ask_X7_weight : GoodIn wsL_ask wsX7_weight := goodIn_ca (goodIn_r _ [9, 10, 11, 12, 13, 14, 15, 8, 16, 17, 18, 90, 91, 92, 93, 94, 95, 96, 97, 98, 99, 100, 101, 102, 103] (by decide +kernel) (by decide +kernel)) (goodIn_sub (fun _ h => List.mem_cons_of_mem _ (List.mem_append_left _ (List.mem_append_right _ h))) (by decide +kernel))
set_option maxRecDepth 20000 in
theorem gL_ask_X7_weight : GoodIn wsL_ask (wsV RL 55 RX7 yX7_weight wsX7_weight) := goodIn_app (goodIn_of _ (by decide +kernel)) ggL_ask_X7_weight
set_option maxRecDepth 20000 in
theorem ggL_ask_X7_code : GoodIn wsL_ask wsX7_code := goodIn_ca (goodIn_r _ [22, 10, 23, 24, 25, 14, 15, 8, 16, 17, 18, 90, 91, 92, 93, 94, 95, 96, 97, 98, 99, 100, 101, 104, 105, 106, 107] (by decide +kernel) (by decide +kernel)) (goodIn_sub (fun _ h => List.mem_cons_of_mem _ (List.mem_append_left _ (List.mem_append_right _ h))) (by decide +kernel))
set_option maxRecDepth 20000 in
theorem gL_ask_X7_code : GoodIn wsL_ask (wsV RL 58 RX7 yX7_code wsX7_code) := goodIn_app (goodIn_of _ (by decide +kernel)) ggL_ask_X7_code
set_option maxRecDepth 20000 in
theorem ggL_ask_X7_kept : GoodIn wsL_ask wsX7_kept := goodIn_ca (goodIn_r _ [29, 10, 23, 24, 30, 14, 15, 8, 16, 17, 18, 90, 91, 92, 93, 94, 95, 96, 97, 98, 99, 100, 101, 104, 105, 106, 107] (by decide +kernel) (by decide +kernel)) (goodIn_sub (fun _ h => List.mem_cons_of_mem _ (List.mem_append_left _ (List.mem_append_right _ h))) (by decide +kernel))
set_option maxRecDepth 20000 in
theorem gL_ask_X7_kept : GoodIn wsL_ask (wsV RL 61 RX7 yX7_kept wsX7_kept) := goodIn_app (goodIn_of _ (by decide +kernel)) ggL_ask_X7_kept
set_option maxRecDepth 20000 in
theorem ggL_ask_X7_error : GoodIn wsL_ask wsX7_error := goodIn_ca (goodIn_r _ [34, 10, 23, 24, 14, 15, 8, 16, 17, 18, 35, 36, 37, 38, 39, 40, 41, 90, 91, 92, 93, 94, 95, 96, 97, 98, 99, 100, 101, 104, 105, 106, 107] (by decide +kernel) (by decide +kernel)) (goodIn_sub (fun _ h => List.mem_cons_of_mem _ (List.mem_append_left _ (List.mem_append_right _ h))) (by decide +kernel))
set_option maxRecDepth 20000 in
theorem gL_ask_X7_error : GoodIn wsL_ask (wsV RL 64 RX7 yX7_error wsX7_error) := goodIn_app (goodIn_of _ (by decide +kernel)) ggL_ask_X7_error
set_option maxRecDepth 20000 in
theorem ggL_ask_X7_ideal : GoodIn wsL_ask wsX7_ideal := goodIn_ca (goodIn_r _ [45, 46, 47, 48, 8, 49, 50, 51, 52, 53, 54, 55, 56, 10, 11, 57, 58, 59, 60, 61, 62, 63, 64, 65, 66, 67, 68, 69, 70, 71, 90, 91, 92, 93, 94, 95, 96, 97, 98, 99, 100, 101, 108, 109, 110, 102, 103] (by decide +kernel) (by decide +kernel)) (goodIn_sub (fun _ h => List.mem_cons_of_mem _ (List.mem_append_right _ h)) (by decide +kernel))
set_option maxRecDepth 20000 in
theorem gL_ask_X7_ideal : GoodIn wsL_ask (wsV RL 67 RX7 yX7_ideal wsX7_ideal) := goodIn_app (goodIn_of _ (by decide +kernel)) ggL_ask_X7_ideal
set_option maxRecDepth 20000 in
theorem ggL_ask_X7_mended : GoodIn wsL_ask wsX7_mended := goodIn_ca (goodIn_r _ [75, 10, 11, 12, 14, 15, 8, 16, 17, 18, 52, 53, 54, 55, 56, 57, 58, 59, 60, 61, 62, 63, 64, 65, 66, 67, 68, 69, 70, 71, 90, 91, 92, 93, 94, 95, 96, 97, 98, 99, 100, 101, 102, 103, 108, 109, 110] (by decide +kernel) (by decide +kernel)) (goodIn_sub (fun _ h => List.mem_cons_of_mem _ (List.mem_append_left _ (List.mem_append_right _ h))) (by decide +kernel))
set_option maxRecDepth 20000 in
theorem gL_ask_X7_mended : GoodIn wsL_ask (wsV RL 70 RX7 yX7_mended wsX7_mended) := goodIn_app (goodIn_of _ (by decide +kernel)) ggL_ask_X7_mended
set_option maxRecDepth 20000 in
theorem ggL_ask_X7_ticksToSettle : GoodIn wsL_ask wsX7_ticksToSettle := goodIn_ca (goodIn_r _ [79, 46, 10, 80, 81, 82, 83, 84, 85, 86, 47, 48, 8, 49, 50, 51, 87, 88, 89, 90, 91, 92, 93, 94, 95, 96, 97, 98, 99, 100, 101] (by decide +kernel) (by decide +kernel)) (goodIn_sub (fun _ h => List.mem_cons_of_mem _ (List.mem_append_right _ h)) (by decide +kernel))
set_option maxRecDepth 20000 in
theorem gL_ask_X7_ticksToSettle : GoodIn wsL_ask (wsV RL 73 RX7 yX7_ticksToSettle wsX7_ticksToSettle) := goodIn_app (goodIn_of _ (by decide +kernel)) ggL_ask_X7_ticksToSettle
theorem dL_ask_0 : decode cL_ask 0 = .ok (.iload_n 1, 1) := by decide +kernel
theorem dL_ask_1 : decode cL_ask 1 = .ok (.ifCond .ne 11, 3) := by decide +kernel
theorem dL_ask_4 : decode cL_ask 4 = .ok (.aload_n 0, 1) := by decide +kernel
theorem dL_ask_5 : decode cL_ask 5 = .ok (.iload_n 2, 1) := by decide +kernel
theorem dL_ask_6 : decode cL_ask 6 = .ok (.invokevirtual 55, 3) := by decide +kernel
theorem dL_ask_9 : decode cL_ask 9 = .ok (.goto 73, 3) := by decide +kernel
theorem dL_ask_12 : decode cL_ask 12 = .ok (.iload_n 1, 1) := by decide +kernel
theorem dL_ask_13 : decode cL_ask 13 = .ok (.iconst 1, 1) := by decide +kernel
theorem dL_ask_14 : decode cL_ask 14 = .ok (.if_icmp .ne 11, 3) := by decide +kernel
theorem dL_ask_17 : decode cL_ask 17 = .ok (.aload_n 0, 1) := by decide +kernel
theorem dL_ask_18 : decode cL_ask 18 = .ok (.iload_n 2, 1) := by decide +kernel
theorem dL_ask_19 : decode cL_ask 19 = .ok (.invokevirtual 58, 3) := by decide +kernel
theorem dL_ask_22 : decode cL_ask 22 = .ok (.goto 60, 3) := by decide +kernel
theorem dL_ask_25 : decode cL_ask 25 = .ok (.iload_n 1, 1) := by decide +kernel
theorem dL_ask_26 : decode cL_ask 26 = .ok (.iconst 2, 1) := by decide +kernel
theorem dL_ask_27 : decode cL_ask 27 = .ok (.if_icmp .ne 11, 3) := by decide +kernel
theorem dL_ask_30 : decode cL_ask 30 = .ok (.aload_n 0, 1) := by decide +kernel
theorem dL_ask_31 : decode cL_ask 31 = .ok (.iload_n 2, 1) := by decide +kernel
theorem dL_ask_32 : decode cL_ask 32 = .ok (.invokevirtual 61, 3) := by decide +kernel
theorem dL_ask_35 : decode cL_ask 35 = .ok (.goto 47, 3) := by decide +kernel
theorem dL_ask_38 : decode cL_ask 38 = .ok (.iload_n 1, 1) := by decide +kernel
theorem dL_ask_39 : decode cL_ask 39 = .ok (.iconst 3, 1) := by decide +kernel
theorem dL_ask_40 : decode cL_ask 40 = .ok (.if_icmp .ne 11, 3) := by decide +kernel
theorem dL_ask_43 : decode cL_ask 43 = .ok (.aload_n 0, 1) := by decide +kernel
theorem dL_ask_44 : decode cL_ask 44 = .ok (.iload_n 2, 1) := by decide +kernel
theorem dL_ask_45 : decode cL_ask 45 = .ok (.invokevirtual 64, 3) := by decide +kernel
theorem dL_ask_48 : decode cL_ask 48 = .ok (.goto 34, 3) := by decide +kernel
theorem dL_ask_51 : decode cL_ask 51 = .ok (.iload_n 1, 1) := by decide +kernel
theorem dL_ask_52 : decode cL_ask 52 = .ok (.iconst 4, 1) := by decide +kernel
theorem dL_ask_53 : decode cL_ask 53 = .ok (.if_icmp .ne 11, 3) := by decide +kernel
theorem dL_ask_56 : decode cL_ask 56 = .ok (.aload_n 0, 1) := by decide +kernel
theorem dL_ask_57 : decode cL_ask 57 = .ok (.iload_n 2, 1) := by decide +kernel
theorem dL_ask_58 : decode cL_ask 58 = .ok (.invokevirtual 67, 3) := by decide +kernel
theorem dL_ask_61 : decode cL_ask 61 = .ok (.goto 21, 3) := by decide +kernel
theorem dL_ask_64 : decode cL_ask 64 = .ok (.iload_n 1, 1) := by decide +kernel
theorem dL_ask_65 : decode cL_ask 65 = .ok (.iconst 5, 1) := by decide +kernel
theorem dL_ask_66 : decode cL_ask 66 = .ok (.if_icmp .ne 11, 3) := by decide +kernel
theorem dL_ask_69 : decode cL_ask 69 = .ok (.aload_n 0, 1) := by decide +kernel
theorem dL_ask_70 : decode cL_ask 70 = .ok (.iload_n 2, 1) := by decide +kernel
theorem dL_ask_71 : decode cL_ask 71 = .ok (.invokevirtual 70, 3) := by decide +kernel
theorem dL_ask_74 : decode cL_ask 74 = .ok (.goto 8, 3) := by decide +kernel
theorem dL_ask_77 : decode cL_ask 77 = .ok (.aload_n 0, 1) := by decide +kernel
theorem dL_ask_78 : decode cL_ask 78 = .ok (.iload_n 2, 1) := by decide +kernel
theorem dL_ask_79 : decode cL_ask 79 = .ok (.invokevirtual 73, 3) := by decide +kernel
theorem dL_ask_82 : decode cL_ask 82 = .ok (.ireturn, 1) := by decide +kernel
theorem dL_ask_83 : decode cL_ask 83 = .ok (.astore_n 3, 1) := by decide +kernel
theorem dL_ask_84 : decode cL_ask 84 = .ok (.ldc 76, 2) := by decide +kernel
theorem dL_ask_86 : decode cL_ask 86 = .ok (.ireturn, 1) := by decide +kernel
theorem dL_ask_87 : decode cL_ask 87 = .ok (.astore_n 3, 1) := by decide +kernel
theorem dL_ask_88 : decode cL_ask 88 = .ok (.ldc 77, 2) := by decide +kernel
theorem dL_ask_90 : decode cL_ask 90 = .ok (.ireturn, 1) := by decide +kernel
set_option maxRecDepth 20000 in
theorem ggL_seen_X7_voltage : GoodIn wsL_seen wsX7_voltage := goodIn_r _ [8, 9, 10, 131, 132, 133, 134, 135, 136, 137, 138, 139, 140, 141, 142] (by decide +kernel) (by decide +kernel)
set_option maxRecDepth 20000 in
theorem gL_seen_X7_voltage : GoodIn wsL_seen (wsV RL 80 RX7 yX7_voltage wsX7_voltage) := goodIn_app (goodIn_of _ (by decide +kernel)) ggL_seen_X7_voltage
set_option maxRecDepth 20000 in
theorem ggL_seen_X7_weights : GoodIn wsL_seen wsX7_weights := goodIn_r _ [14, 9, 15, 16, 131, 132, 133, 134, 135, 136, 137, 138, 139, 140, 141, 142, 143, 144] (by decide +kernel) (by decide +kernel)
set_option maxRecDepth 20000 in
theorem gL_seen_X7_weights : GoodIn wsL_seen (wsV RL 85 RX7 yX7_weights wsX7_weights) := goodIn_app (goodIn_of _ (by decide +kernel)) ggL_seen_X7_weights
set_option maxRecDepth 20000 in
theorem ggL_seen_X7_total : GoodIn wsL_seen wsX7_total := goodIn_r _ [20, 9, 15, 21, 22, 23, 24, 25, 26, 27, 131, 132, 133, 134, 135, 136, 137, 138, 139, 140, 141, 142, 143, 144] (by decide +kernel) (by decide +kernel)
set_option maxRecDepth 20000 in
theorem gL_seen_X7_total : GoodIn wsL_seen (wsV RL 88 RX7 yX7_total wsX7_total) := goodIn_app (goodIn_of _ (by decide +kernel)) ggL_seen_X7_total
set_option maxRecDepth 20000 in
theorem ggL_seen_X7_logged : GoodIn wsL_seen wsX7_logged := goodIn_r _ [31, 9, 32, 33, 131, 132, 133, 134, 135, 136, 137, 138, 139, 140, 141, 142, 145, 146, 147, 148] (by decide +kernel) (by decide +kernel)
set_option maxRecDepth 20000 in
theorem gL_seen_X7_logged : GoodIn wsL_seen (wsV RL 91 RX7 yX7_logged wsX7_logged) := goodIn_app (goodIn_of _ (by decide +kernel)) ggL_seen_X7_logged
set_option maxRecDepth 20000 in
theorem ggL_seen_L_ask : GoodIn wsL_seen wsL_ask := goodIn_ca (goodIn_ca (goodIn_r _ [37, 38, 39, 40, 41, 42, 43, 44, 7, 45, 9, 15, 16, 46, 47, 48, 49, 50, 51, 52, 53, 54, 55, 32, 33, 56, 57, 58, 59, 60, 61, 62, 63, 64, 65, 66, 67, 68, 69, 70, 71, 72, 73, 74, 75, 76, 77, 78, 79, 80, 81, 82, 83, 84, 85, 86, 87, 88, 89, 90, 91, 92, 93, 94, 95, 96, 97, 98, 99, 100, 101, 102, 103, 104, 105, 106, 107, 108, 109, 110, 10, 111, 112, 113, 114, 115, 116, 117, 118, 119, 131, 132, 133, 134, 135, 136, 137, 138, 139, 140, 141, 142, 143, 144, 145, 146, 147, 148, 149, 150, 151] (by decide +kernel) (by decide +kernel)) (goodIn_sub (fun _ h => List.mem_cons_of_mem _ (List.mem_append_left _ (List.mem_append_right _ h))) (by decide +kernel))) (goodIn_sub (fun _ h => List.mem_cons_of_mem _ (List.mem_append_right _ h)) (by decide +kernel))
set_option maxRecDepth 20000 in
theorem gL_seen_L_ask : GoodIn wsL_seen (va_wsS RL 94 yL_ask wsL_ask) := goodIn_app (goodIn_of _ (by decide +kernel)) ggL_seen_L_ask
set_option maxRecDepth 20000 in
theorem ggL_seen_X7_nextCode : GoodIn wsL_seen wsX7_nextCode := goodIn_r _ [123, 87, 88, 124, 125, 126, 7, 127, 9, 15, 10, 128, 129, 130, 89, 90, 91, 92, 93, 94, 95, 96, 97, 98, 99, 100, 101, 102, 131, 132, 133, 134, 135, 149, 150, 151, 136, 137, 138, 139, 140, 141, 142, 143, 144] (by decide +kernel) (by decide +kernel)
set_option maxRecDepth 20000 in
theorem gL_seen_X7_nextCode : GoodIn wsL_seen (wsV RL 100 RX7 yX7_nextCode wsX7_nextCode) := goodIn_app (goodIn_of _ (by decide +kernel)) ggL_seen_X7_nextCode
set_option maxRecDepth 20000 in
theorem ggL_seen_X7_ticksToSettle : GoodIn wsL_seen wsX7_ticksToSettle := goodIn_ca (goodIn_r _ [110, 77, 9, 10, 111, 112, 113, 114, 115, 116, 78, 79, 7, 80, 81, 82, 117, 118, 119, 131, 132, 133, 134, 135, 136, 137, 138, 139, 140, 141, 142] (by decide +kernel) (by decide +kernel)) (goodIn_sub (fun _ h => List.mem_cons_of_mem _ (List.mem_append_right _ h)) (by decide +kernel))
set_option maxRecDepth 20000 in
theorem gL_seen_X7_ticksToSettle : GoodIn wsL_seen (wsV RL 73 RX7 yX7_ticksToSettle wsX7_ticksToSettle) := goodIn_app (goodIn_of _ (by decide +kernel)) ggL_seen_X7_ticksToSettle
theorem dL_seen_0 : decode cL_seen 0 = .ok (.ldc2_w 78, 3) := by decide +kernel
theorem dL_seen_3 : decode cL_seen 3 = .ok (.aload_n 0, 1) := by decide +kernel
theorem dL_seen_4 : decode cL_seen 4 = .ok (.invokevirtual 80, 3) := by decide +kernel
theorem dL_seen_7 : decode cL_seen 7 = .ok (.i2l, 1) := by decide +kernel
theorem dL_seen_8 : decode cL_seen 8 = .ok (.ladd, 1) := by decide +kernel
theorem dL_seen_9 : decode cL_seen 9 = .ok (.lstore_n 1, 1) := by decide +kernel
theorem dL_seen_10 : decode cL_seen 10 = .ok (.ldc2_w 83, 3) := by decide +kernel
theorem dL_seen_13 : decode cL_seen 13 = .ok (.ldc2_w 83, 3) := by decide +kernel
theorem dL_seen_16 : decode cL_seen 16 = .ok (.ldc2_w 83, 3) := by decide +kernel
theorem dL_seen_19 : decode cL_seen 19 = .ok (.lload_n 1, 1) := by decide +kernel
theorem dL_seen_20 : decode cL_seen 20 = .ok (.lmul, 1) := by decide +kernel
theorem dL_seen_21 : decode cL_seen 21 = .ok (.aload_n 0, 1) := by decide +kernel
theorem dL_seen_22 : decode cL_seen 22 = .ok (.invokevirtual 85, 3) := by decide +kernel
theorem dL_seen_25 : decode cL_seen 25 = .ok (.i2l, 1) := by decide +kernel
theorem dL_seen_26 : decode cL_seen 26 = .ok (.ladd, 1) := by decide +kernel
theorem dL_seen_27 : decode cL_seen 27 = .ok (.lmul, 1) := by decide +kernel
theorem dL_seen_28 : decode cL_seen 28 = .ok (.aload_n 0, 1) := by decide +kernel
theorem dL_seen_29 : decode cL_seen 29 = .ok (.invokevirtual 88, 3) := by decide +kernel
theorem dL_seen_32 : decode cL_seen 32 = .ok (.i2l, 1) := by decide +kernel
theorem dL_seen_33 : decode cL_seen 33 = .ok (.ladd, 1) := by decide +kernel
theorem dL_seen_34 : decode cL_seen 34 = .ok (.lmul, 1) := by decide +kernel
theorem dL_seen_35 : decode cL_seen 35 = .ok (.aload_n 0, 1) := by decide +kernel
theorem dL_seen_36 : decode cL_seen 36 = .ok (.invokevirtual 91, 3) := by decide +kernel
theorem dL_seen_39 : decode cL_seen 39 = .ok (.i2l, 1) := by decide +kernel
theorem dL_seen_40 : decode cL_seen 40 = .ok (.ladd, 1) := by decide +kernel
theorem dL_seen_41 : decode cL_seen 41 = .ok (.lstore_n 1, 1) := by decide +kernel
theorem dL_seen_42 : decode cL_seen 42 = .ok (.iconst 0, 1) := by decide +kernel
theorem dL_seen_43 : decode cL_seen 43 = .ok (.istore_n 3, 1) := by decide +kernel
theorem dL_seen_44 : decode cL_seen 44 = .ok (.iload_n 3, 1) := by decide +kernel
theorem dL_seen_45 : decode cL_seen 45 = .ok (.aload_n 0, 1) := by decide +kernel
theorem dL_seen_46 : decode cL_seen 46 = .ok (.invokevirtual 85, 3) := by decide +kernel
theorem dL_seen_49 : decode cL_seen 49 = .ok (.if_icmp .ge 23, 3) := by decide +kernel
theorem dL_seen_52 : decode cL_seen 52 = .ok (.ldc2_w 83, 3) := by decide +kernel
theorem dL_seen_55 : decode cL_seen 55 = .ok (.lload_n 1, 1) := by decide +kernel
theorem dL_seen_56 : decode cL_seen 56 = .ok (.lmul, 1) := by decide +kernel
theorem dL_seen_57 : decode cL_seen 57 = .ok (.aload_n 0, 1) := by decide +kernel
theorem dL_seen_58 : decode cL_seen 58 = .ok (.iconst 0, 1) := by decide +kernel
theorem dL_seen_59 : decode cL_seen 59 = .ok (.iload_n 3, 1) := by decide +kernel
theorem dL_seen_60 : decode cL_seen 60 = .ok (.invokestatic 94, 3) := by decide +kernel
theorem dL_seen_63 : decode cL_seen 63 = .ok (.i2l, 1) := by decide +kernel
theorem dL_seen_64 : decode cL_seen 64 = .ok (.ladd, 1) := by decide +kernel
theorem dL_seen_65 : decode cL_seen 65 = .ok (.lstore_n 1, 1) := by decide +kernel
theorem dL_seen_66 : decode cL_seen 66 = .ok (.iinc 3 1, 3) := by decide +kernel
theorem dL_seen_69 : decode cL_seen 69 = .ok (.goto (-25), 3) := by decide +kernel
theorem dL_seen_72 : decode cL_seen 72 = .ok (.iconst 0, 1) := by decide +kernel
theorem dL_seen_73 : decode cL_seen 73 = .ok (.istore_n 3, 1) := by decide +kernel
theorem dL_seen_74 : decode cL_seen 74 = .ok (.iload_n 3, 1) := by decide +kernel
theorem dL_seen_75 : decode cL_seen 75 = .ok (.aload_n 0, 1) := by decide +kernel
theorem dL_seen_76 : decode cL_seen 76 = .ok (.invokevirtual 91, 3) := by decide +kernel
theorem dL_seen_79 : decode cL_seen 79 = .ok (.if_icmp .ge 47, 3) := by decide +kernel
theorem dL_seen_82 : decode cL_seen 82 = .ok (.ldc2_w 83, 3) := by decide +kernel
theorem dL_seen_85 : decode cL_seen 85 = .ok (.ldc2_w 83, 3) := by decide +kernel
theorem dL_seen_88 : decode cL_seen 88 = .ok (.ldc2_w 83, 3) := by decide +kernel
theorem dL_seen_91 : decode cL_seen 91 = .ok (.lload_n 1, 1) := by decide +kernel
theorem dL_seen_92 : decode cL_seen 92 = .ok (.lmul, 1) := by decide +kernel
theorem dL_seen_93 : decode cL_seen 93 = .ok (.aload_n 0, 1) := by decide +kernel
theorem dL_seen_94 : decode cL_seen 94 = .ok (.iconst 1, 1) := by decide +kernel
theorem dL_seen_95 : decode cL_seen 95 = .ok (.iload_n 3, 1) := by decide +kernel
theorem dL_seen_96 : decode cL_seen 96 = .ok (.invokestatic 94, 3) := by decide +kernel
theorem dL_seen_99 : decode cL_seen 99 = .ok (.i2l, 1) := by decide +kernel
theorem dL_seen_100 : decode cL_seen 100 = .ok (.ladd, 1) := by decide +kernel
theorem dL_seen_101 : decode cL_seen 101 = .ok (.lmul, 1) := by decide +kernel
theorem dL_seen_102 : decode cL_seen 102 = .ok (.aload_n 0, 1) := by decide +kernel
theorem dL_seen_103 : decode cL_seen 103 = .ok (.iconst 2, 1) := by decide +kernel
theorem dL_seen_104 : decode cL_seen 104 = .ok (.iload_n 3, 1) := by decide +kernel
theorem dL_seen_105 : decode cL_seen 105 = .ok (.invokestatic 94, 3) := by decide +kernel
theorem dL_seen_108 : decode cL_seen 108 = .ok (.i2l, 1) := by decide +kernel
theorem dL_seen_109 : decode cL_seen 109 = .ok (.ladd, 1) := by decide +kernel
theorem dL_seen_110 : decode cL_seen 110 = .ok (.lmul, 1) := by decide +kernel
theorem dL_seen_111 : decode cL_seen 111 = .ok (.aload_n 0, 1) := by decide +kernel
theorem dL_seen_112 : decode cL_seen 112 = .ok (.iconst 3, 1) := by decide +kernel
theorem dL_seen_113 : decode cL_seen 113 = .ok (.iload_n 3, 1) := by decide +kernel
theorem dL_seen_114 : decode cL_seen 114 = .ok (.invokestatic 94, 3) := by decide +kernel
theorem dL_seen_117 : decode cL_seen 117 = .ok (.i2l, 1) := by decide +kernel
theorem dL_seen_118 : decode cL_seen 118 = .ok (.ladd, 1) := by decide +kernel
theorem dL_seen_119 : decode cL_seen 119 = .ok (.lstore_n 1, 1) := by decide +kernel
theorem dL_seen_120 : decode cL_seen 120 = .ok (.iinc 3 1, 3) := by decide +kernel
theorem dL_seen_123 : decode cL_seen 123 = .ok (.goto (-49), 3) := by decide +kernel
theorem dL_seen_126 : decode cL_seen 126 = .ok (.ldc2_w 83, 3) := by decide +kernel
theorem dL_seen_129 : decode cL_seen 129 = .ok (.ldc2_w 83, 3) := by decide +kernel
theorem dL_seen_132 : decode cL_seen 132 = .ok (.lload_n 1, 1) := by decide +kernel
theorem dL_seen_133 : decode cL_seen 133 = .ok (.lmul, 1) := by decide +kernel
theorem dL_seen_134 : decode cL_seen 134 = .ok (.aload_n 0, 1) := by decide +kernel
theorem dL_seen_135 : decode cL_seen 135 = .ok (.invokevirtual 100, 3) := by decide +kernel
theorem dL_seen_138 : decode cL_seen 138 = .ok (.i2l, 1) := by decide +kernel
theorem dL_seen_139 : decode cL_seen 139 = .ok (.ladd, 1) := by decide +kernel
theorem dL_seen_140 : decode cL_seen 140 = .ok (.lmul, 1) := by decide +kernel
theorem dL_seen_141 : decode cL_seen 141 = .ok (.aload_n 0, 1) := by decide +kernel
theorem dL_seen_142 : decode cL_seen 142 = .ok (.ldc 103, 2) := by decide +kernel
theorem dL_seen_144 : decode cL_seen 144 = .ok (.invokevirtual 73, 3) := by decide +kernel
theorem dL_seen_147 : decode cL_seen 147 = .ok (.i2l, 1) := by decide +kernel
theorem dL_seen_148 : decode cL_seen 148 = .ok (.ladd, 1) := by decide +kernel
theorem dL_seen_149 : decode cL_seen 149 = .ok (.lreturn, 1) := by decide +kernel
set_option maxRecDepth 20000 in
theorem ggL_isWhole_X7_weights : GoodIn wsL_isWhole wsX7_weights := goodIn_r _ [7, 8, 9, 10, 176, 177, 178, 179, 180, 181, 182, 183, 184, 185, 186, 187, 188, 189] (by decide +kernel) (by decide +kernel)
set_option maxRecDepth 20000 in
theorem gL_isWhole_X7_weights : GoodIn wsL_isWhole (wsV RL 85 RX7 yX7_weights wsX7_weights) := goodIn_app (goodIn_of _ (by decide +kernel)) ggL_isWhole_X7_weights
set_option maxRecDepth 20000 in
theorem ggL_isWhole_X7_leastMissing : GoodIn wsL_isWhole wsX7_leastMissing := goodIn_r _ [14, 15, 8, 9, 16, 17, 18, 19, 20, 21, 22, 23, 24, 25, 26, 27, 28, 29, 30, 31, 176, 177, 178, 179, 180, 181, 182, 183, 184, 185, 186, 187, 190, 188, 189] (by decide +kernel) (by decide +kernel)
set_option maxRecDepth 20000 in
theorem gL_isWhole_X7_leastMissing : GoodIn wsL_isWhole (wsV RL 104 RX7 yX7_leastMissing wsX7_leastMissing) := goodIn_app (goodIn_of _ (by decide +kernel)) ggL_isWhole_X7_leastMissing
set_option maxRecDepth 20000 in
theorem ggL_isWhole_X7_voltage : GoodIn wsL_isWhole wsX7_voltage := goodIn_r _ [35, 8, 36, 176, 177, 178, 179, 180, 181, 182, 183, 184, 185, 186, 187] (by decide +kernel) (by decide +kernel)
set_option maxRecDepth 20000 in
theorem gL_isWhole_X7_voltage : GoodIn wsL_isWhole (wsV RL 80 RX7 yX7_voltage wsX7_voltage) := goodIn_app (goodIn_of _ (by decide +kernel)) ggL_isWhole_X7_voltage
set_option maxRecDepth 20000 in
theorem ggL_isWhole_X7_logged : GoodIn wsL_isWhole wsX7_logged := goodIn_r _ [40, 8, 41, 42, 176, 177, 178, 179, 180, 181, 182, 183, 184, 185, 186, 187, 191, 192, 193, 194] (by decide +kernel) (by decide +kernel)
set_option maxRecDepth 20000 in
theorem gL_isWhole_X7_logged : GoodIn wsL_isWhole (wsV RL 91 RX7 yX7_logged wsX7_logged) := goodIn_app (goodIn_of _ (by decide +kernel)) ggL_isWhole_X7_logged
set_option maxRecDepth 20000 in
theorem ggL_isWhole_L_ask : GoodIn wsL_isWhole wsL_ask := goodIn_ca (goodIn_ca (goodIn_r _ [46, 47, 48, 49, 50, 51, 52, 53, 6, 54, 8, 9, 10, 55, 56, 57, 58, 59, 60, 61, 62, 63, 64, 41, 42, 65, 66, 67, 68, 69, 70, 71, 72, 73, 74, 75, 76, 77, 78, 79, 80, 81, 82, 83, 84, 85, 86, 87, 88, 89, 90, 91, 92, 93, 94, 95, 96, 97, 98, 99, 100, 101, 102, 103, 104, 105, 106, 107, 108, 109, 110, 111, 112, 113, 114, 115, 116, 117, 118, 119, 36, 120, 121, 122, 123, 124, 125, 126, 127, 128, 176, 177, 178, 179, 180, 181, 182, 183, 184, 185, 186, 187, 188, 189, 191, 192, 193, 194, 195, 196, 197] (by decide +kernel) (by decide +kernel)) (goodIn_sub (fun _ h => List.mem_cons_of_mem _ (List.mem_append_left _ (List.mem_append_right _ h))) (by decide +kernel))) (goodIn_sub (fun _ h => List.mem_cons_of_mem _ (List.mem_append_right _ h)) (by decide +kernel))
set_option maxRecDepth 20000 in
theorem gL_isWhole_L_ask : GoodIn wsL_isWhole (va_wsS RL 94 yL_ask wsL_ask) := goodIn_app (goodIn_of _ (by decide +kernel)) ggL_isWhole_L_ask
set_option maxRecDepth 20000 in
theorem ggL_isWhole_X7_sums : GoodIn wsL_isWhole wsX7_sums := goodIn_r _ [132, 15, 8, 9, 16, 17, 18, 19, 20, 21, 22, 23, 24, 25, 26, 27, 133, 134, 135, 136, 137, 138, 139, 140, 141, 142, 143, 176, 177, 178, 179, 180, 181, 182, 183, 184, 185, 186, 187, 190, 188, 189] (by decide +kernel) (by decide +kernel)
set_option maxRecDepth 20000 in
theorem gL_isWhole_X7_sums : GoodIn wsL_isWhole (wsV RL 108 RX7 yX7_sums wsX7_sums) := goodIn_app (goodIn_of _ (by decide +kernel)) ggL_isWhole_X7_sums
set_option maxRecDepth 20000 in
theorem ggL_isWhole_X7_total : GoodIn wsL_isWhole wsX7_total := goodIn_r _ [147, 8, 9, 148, 149, 150, 151, 152, 153, 154, 176, 177, 178, 179, 180, 181, 182, 183, 184, 185, 186, 187, 188, 189] (by decide +kernel) (by decide +kernel)
set_option maxRecDepth 20000 in
theorem gL_isWhole_X7_total : GoodIn wsL_isWhole (wsV RL 88 RX7 yX7_total wsX7_total) := goodIn_app (goodIn_of _ (by decide +kernel)) ggL_isWhole_X7_total
set_option maxRecDepth 20000 in
theorem ggL_isWhole_X7_nextCode : GoodIn wsL_isWhole wsX7_nextCode := goodIn_r _ [158, 96, 97, 159, 160, 161, 6, 162, 8, 9, 36, 163, 164, 165, 98, 99, 100, 101, 102, 103, 104, 105, 106, 107, 108, 109, 110, 111, 176, 177, 178, 179, 180, 195, 196, 197, 181, 182, 183, 184, 185, 186, 187, 188, 189] (by decide +kernel) (by decide +kernel)
set_option maxRecDepth 20000 in
theorem gL_isWhole_X7_nextCode : GoodIn wsL_isWhole (wsV RL 100 RX7 yX7_nextCode wsX7_nextCode) := goodIn_app (goodIn_of _ (by decide +kernel)) ggL_isWhole_X7_nextCode
set_option maxRecDepth 20000 in
theorem ggL_isWhole_X7_meanError : GoodIn wsL_isWhole wsX7_meanError := goodIn_r _ [169, 8, 41, 42, 170, 171, 172, 78, 173, 174, 175, 76, 77, 79, 80, 81, 176, 177, 178, 179, 180, 181, 182, 183, 184, 185, 186, 187, 191, 192, 193, 194] (by decide +kernel) (by decide +kernel)
set_option maxRecDepth 20000 in
theorem gL_isWhole_X7_meanError : GoodIn wsL_isWhole (wsV RL 111 RX7 yX7_meanError wsX7_meanError) := goodIn_app (goodIn_of _ (by decide +kernel)) ggL_isWhole_X7_meanError
theorem dL_isWhole_0 : decode cL_isWhole 0 = .ok (.iconst 0, 1) := by decide +kernel
theorem dL_isWhole_1 : decode cL_isWhole 1 = .ok (.istore_n 1, 1) := by decide +kernel
theorem dL_isWhole_2 : decode cL_isWhole 2 = .ok (.iconst 0, 1) := by decide +kernel
theorem dL_isWhole_3 : decode cL_isWhole 3 = .ok (.istore_n 2, 1) := by decide +kernel
theorem dL_isWhole_4 : decode cL_isWhole 4 = .ok (.aload_n 0, 1) := by decide +kernel
theorem dL_isWhole_5 : decode cL_isWhole 5 = .ok (.invokevirtual 85, 3) := by decide +kernel
theorem dL_isWhole_8 : decode cL_isWhole 8 = .ok (.istore_n 3, 1) := by decide +kernel
theorem dL_isWhole_9 : decode cL_isWhole 9 = .ok (.aload_n 0, 1) := by decide +kernel
theorem dL_isWhole_10 : decode cL_isWhole 10 = .ok (.invokevirtual 104, 3) := by decide +kernel
theorem dL_isWhole_13 : decode cL_isWhole 13 = .ok (.istore 4, 2) := by decide +kernel
theorem dL_isWhole_15 : decode cL_isWhole 15 = .ok (.iload_n 3, 1) := by decide +kernel
theorem dL_isWhole_16 : decode cL_isWhole 16 = .ok (.ifCond .le 45, 3) := by decide +kernel
theorem dL_isWhole_19 : decode cL_isWhole 19 = .ok (.iload_n 3, 1) := by decide +kernel
theorem dL_isWhole_20 : decode cL_isWhole 20 = .ok (.bipush 13, 2) := by decide +kernel
theorem dL_isWhole_22 : decode cL_isWhole 22 = .ok (.if_icmp .ge 39, 3) := by decide +kernel
theorem dL_isWhole_25 : decode cL_isWhole 25 = .ok (.aload_n 0, 1) := by decide +kernel
theorem dL_isWhole_26 : decode cL_isWhole 26 = .ok (.invokevirtual 80, 3) := by decide +kernel
theorem dL_isWhole_29 : decode cL_isWhole 29 = .ok (.ifCond .lt 32, 3) := by decide +kernel
theorem dL_isWhole_32 : decode cL_isWhole 32 = .ok (.aload_n 0, 1) := by decide +kernel
theorem dL_isWhole_33 : decode cL_isWhole 33 = .ok (.invokevirtual 80, 3) := by decide +kernel
theorem dL_isWhole_36 : decode cL_isWhole 36 = .ok (.ldc 107, 2) := by decide +kernel
theorem dL_isWhole_38 : decode cL_isWhole 38 = .ok (.if_icmp .ge 23, 3) := by decide +kernel
theorem dL_isWhole_41 : decode cL_isWhole 41 = .ok (.aload_n 0, 1) := by decide +kernel
theorem dL_isWhole_42 : decode cL_isWhole 42 = .ok (.invokevirtual 91, 3) := by decide +kernel
theorem dL_isWhole_45 : decode cL_isWhole 45 = .ok (.ifCond .lt 16, 3) := by decide +kernel
theorem dL_isWhole_48 : decode cL_isWhole 48 = .ok (.aload_n 0, 1) := by decide +kernel
theorem dL_isWhole_49 : decode cL_isWhole 49 = .ok (.invokevirtual 91, 3) := by decide +kernel
theorem dL_isWhole_52 : decode cL_isWhole 52 = .ok (.bipush 9, 2) := by decide +kernel
theorem dL_isWhole_54 : decode cL_isWhole 54 = .ok (.if_icmp .ge 7, 3) := by decide +kernel
theorem dL_isWhole_57 : decode cL_isWhole 57 = .ok (.iconst 1, 1) := by decide +kernel
theorem dL_isWhole_58 : decode cL_isWhole 58 = .ok (.goto 4, 3) := by decide +kernel
theorem dL_isWhole_61 : decode cL_isWhole 61 = .ok (.iconst 0, 1) := by decide +kernel
theorem dL_isWhole_62 : decode cL_isWhole 62 = .ok (.istore 5, 2) := by decide +kernel
theorem dL_isWhole_64 : decode cL_isWhole 64 = .ok (.iconst 0, 1) := by decide +kernel
theorem dL_isWhole_65 : decode cL_isWhole 65 = .ok (.istore 6, 2) := by decide +kernel
theorem dL_isWhole_67 : decode cL_isWhole 67 = .ok (.iload 6, 2) := by decide +kernel
theorem dL_isWhole_69 : decode cL_isWhole 69 = .ok (.iload_n 3, 1) := by decide +kernel
theorem dL_isWhole_70 : decode cL_isWhole 70 = .ok (.if_icmp .ge 48, 3) := by decide +kernel
theorem dL_isWhole_73 : decode cL_isWhole 73 = .ok (.iload 5, 2) := by decide +kernel
theorem dL_isWhole_75 : decode cL_isWhole 75 = .ok (.ifCond .eq 43, 3) := by decide +kernel
theorem dL_isWhole_78 : decode cL_isWhole 78 = .ok (.aload_n 0, 1) := by decide +kernel
theorem dL_isWhole_79 : decode cL_isWhole 79 = .ok (.iconst 0, 1) := by decide +kernel
theorem dL_isWhole_80 : decode cL_isWhole 80 = .ok (.iload 6, 2) := by decide +kernel
theorem dL_isWhole_82 : decode cL_isWhole 82 = .ok (.invokestatic 94, 3) := by decide +kernel
theorem dL_isWhole_85 : decode cL_isWhole 85 = .ok (.istore 7, 2) := by decide +kernel
theorem dL_isWhole_87 : decode cL_isWhole 87 = .ok (.iload_n 1, 1) := by decide +kernel
theorem dL_isWhole_88 : decode cL_isWhole 88 = .ok (.iload 7, 2) := by decide +kernel
theorem dL_isWhole_90 : decode cL_isWhole 90 = .ok (.iadd, 1) := by decide +kernel
theorem dL_isWhole_91 : decode cL_isWhole 91 = .ok (.istore_n 1, 1) := by decide +kernel
theorem dL_isWhole_92 : decode cL_isWhole 92 = .ok (.iload 7, 2) := by decide +kernel
theorem dL_isWhole_94 : decode cL_isWhole 94 = .ok (.ifCond .le 15, 3) := by decide +kernel
theorem dL_isWhole_97 : decode cL_isWhole 97 = .ok (.iload 7, 2) := by decide +kernel
theorem dL_isWhole_99 : decode cL_isWhole 99 = .ok (.sipush 2048, 3) := by decide +kernel
theorem dL_isWhole_102 : decode cL_isWhole 102 = .ok (.if_icmp .gt 7, 3) := by decide +kernel
theorem dL_isWhole_105 : decode cL_isWhole 105 = .ok (.iconst 1, 1) := by decide +kernel
theorem dL_isWhole_106 : decode cL_isWhole 106 = .ok (.goto 4, 3) := by decide +kernel
theorem dL_isWhole_109 : decode cL_isWhole 109 = .ok (.iconst 0, 1) := by decide +kernel
theorem dL_isWhole_110 : decode cL_isWhole 110 = .ok (.istore 5, 2) := by decide +kernel
theorem dL_isWhole_112 : decode cL_isWhole 112 = .ok (.iinc 6 1, 3) := by decide +kernel
theorem dL_isWhole_115 : decode cL_isWhole 115 = .ok (.goto (-48), 3) := by decide +kernel
theorem dL_isWhole_118 : decode cL_isWhole 118 = .ok (.iconst 0, 1) := by decide +kernel
theorem dL_isWhole_119 : decode cL_isWhole 119 = .ok (.istore 6, 2) := by decide +kernel
theorem dL_isWhole_121 : decode cL_isWhole 121 = .ok (.iload 6, 2) := by decide +kernel
theorem dL_isWhole_123 : decode cL_isWhole 123 = .ok (.aload_n 0, 1) := by decide +kernel
theorem dL_isWhole_124 : decode cL_isWhole 124 = .ok (.invokevirtual 91, 3) := by decide +kernel
theorem dL_isWhole_127 : decode cL_isWhole 127 = .ok (.if_icmp .ge 124, 3) := by decide +kernel
theorem dL_isWhole_130 : decode cL_isWhole 130 = .ok (.iload 5, 2) := by decide +kernel
theorem dL_isWhole_132 : decode cL_isWhole 132 = .ok (.ifCond .eq 119, 3) := by decide +kernel
theorem dL_isWhole_135 : decode cL_isWhole 135 = .ok (.aload_n 0, 1) := by decide +kernel
theorem dL_isWhole_136 : decode cL_isWhole 136 = .ok (.iconst 1, 1) := by decide +kernel
theorem dL_isWhole_137 : decode cL_isWhole 137 = .ok (.iload 6, 2) := by decide +kernel
theorem dL_isWhole_139 : decode cL_isWhole 139 = .ok (.invokestatic 94, 3) := by decide +kernel
theorem dL_isWhole_142 : decode cL_isWhole 142 = .ok (.istore 7, 2) := by decide +kernel
theorem dL_isWhole_144 : decode cL_isWhole 144 = .ok (.aload_n 0, 1) := by decide +kernel
theorem dL_isWhole_145 : decode cL_isWhole 145 = .ok (.iconst 3, 1) := by decide +kernel
theorem dL_isWhole_146 : decode cL_isWhole 146 = .ok (.iload 6, 2) := by decide +kernel
theorem dL_isWhole_148 : decode cL_isWhole 148 = .ok (.invokestatic 94, 3) := by decide +kernel
theorem dL_isWhole_151 : decode cL_isWhole 151 = .ok (.istore 8, 2) := by decide +kernel
theorem dL_isWhole_153 : decode cL_isWhole 153 = .ok (.iload_n 2, 1) := by decide +kernel
theorem dL_isWhole_154 : decode cL_isWhole 154 = .ok (.iload 8, 2) := by decide +kernel
theorem dL_isWhole_156 : decode cL_isWhole 156 = .ok (.iadd, 1) := by decide +kernel
theorem dL_isWhole_157 : decode cL_isWhole 157 = .ok (.istore_n 2, 1) := by decide +kernel
theorem dL_isWhole_158 : decode cL_isWhole 158 = .ok (.iload 7, 2) := by decide +kernel
theorem dL_isWhole_160 : decode cL_isWhole 160 = .ok (.ifCond .lt 82, 3) := by decide +kernel
theorem dL_isWhole_163 : decode cL_isWhole 163 = .ok (.aload_n 0, 1) := by decide +kernel
theorem dL_isWhole_164 : decode cL_isWhole 164 = .ok (.iconst 2, 1) := by decide +kernel
theorem dL_isWhole_165 : decode cL_isWhole 165 = .ok (.iload 6, 2) := by decide +kernel
theorem dL_isWhole_167 : decode cL_isWhole 167 = .ok (.invokestatic 94, 3) := by decide +kernel
theorem dL_isWhole_170 : decode cL_isWhole 170 = .ok (.ifCond .lt 72, 3) := by decide +kernel
theorem dL_isWhole_173 : decode cL_isWhole 173 = .ok (.aload_n 0, 1) := by decide +kernel
theorem dL_isWhole_174 : decode cL_isWhole 174 = .ok (.iconst 2, 1) := by decide +kernel
theorem dL_isWhole_175 : decode cL_isWhole 175 = .ok (.iload 6, 2) := by decide +kernel
theorem dL_isWhole_177 : decode cL_isWhole 177 = .ok (.invokestatic 94, 3) := by decide +kernel
theorem dL_isWhole_180 : decode cL_isWhole 180 = .ok (.sipush 4096, 3) := by decide +kernel
theorem dL_isWhole_183 : decode cL_isWhole 183 = .ok (.if_icmp .ge 59, 3) := by decide +kernel
theorem dL_isWhole_186 : decode cL_isWhole 186 = .ok (.iload 7, 2) := by decide +kernel
theorem dL_isWhole_188 : decode cL_isWhole 188 = .ok (.ifCond .ne 7, 3) := by decide +kernel
theorem dL_isWhole_191 : decode cL_isWhole 191 = .ok (.iconst 1, 1) := by decide +kernel
theorem dL_isWhole_192 : decode cL_isWhole 192 = .ok (.goto 4, 3) := by decide +kernel
theorem dL_isWhole_195 : decode cL_isWhole 195 = .ok (.iconst 0, 1) := by decide +kernel
theorem dL_isWhole_196 : decode cL_isWhole 196 = .ok (.aload_n 0, 1) := by decide +kernel
theorem dL_isWhole_197 : decode cL_isWhole 197 = .ok (.iconst 2, 1) := by decide +kernel
theorem dL_isWhole_198 : decode cL_isWhole 198 = .ok (.iload 6, 2) := by decide +kernel
theorem dL_isWhole_200 : decode cL_isWhole 200 = .ok (.invokestatic 94, 3) := by decide +kernel
theorem dL_isWhole_203 : decode cL_isWhole 203 = .ok (.ifCond .ne 7, 3) := by decide +kernel
theorem dL_isWhole_206 : decode cL_isWhole 206 = .ok (.iconst 1, 1) := by decide +kernel
theorem dL_isWhole_207 : decode cL_isWhole 207 = .ok (.goto 4, 3) := by decide +kernel
theorem dL_isWhole_210 : decode cL_isWhole 210 = .ok (.iconst 0, 1) := by decide +kernel
theorem dL_isWhole_211 : decode cL_isWhole 211 = .ok (.if_icmp .ne 31, 3) := by decide +kernel
theorem dL_isWhole_214 : decode cL_isWhole 214 = .ok (.bipush 16, 2) := by decide +kernel
theorem dL_isWhole_216 : decode cL_isWhole 216 = .ok (.iload 7, 2) := by decide +kernel
theorem dL_isWhole_218 : decode cL_isWhole 218 = .ok (.imul, 1) := by decide +kernel
theorem dL_isWhole_219 : decode cL_isWhole 219 = .ok (.iload 8, 2) := by decide +kernel
theorem dL_isWhole_221 : decode cL_isWhole 221 = .ok (.isub, 1) := by decide +kernel
theorem dL_isWhole_222 : decode cL_isWhole 222 = .ok (.ifCond .lt 20, 3) := by decide +kernel
theorem dL_isWhole_225 : decode cL_isWhole 225 = .ok (.bipush 16, 2) := by decide +kernel
theorem dL_isWhole_227 : decode cL_isWhole 227 = .ok (.iload 7, 2) := by decide +kernel
theorem dL_isWhole_229 : decode cL_isWhole 229 = .ok (.imul, 1) := by decide +kernel
theorem dL_isWhole_230 : decode cL_isWhole 230 = .ok (.iload 8, 2) := by decide +kernel
theorem dL_isWhole_232 : decode cL_isWhole 232 = .ok (.isub, 1) := by decide +kernel
theorem dL_isWhole_233 : decode cL_isWhole 233 = .ok (.ldc 107, 2) := by decide +kernel
theorem dL_isWhole_235 : decode cL_isWhole 235 = .ok (.if_icmp .ge 7, 3) := by decide +kernel
theorem dL_isWhole_238 : decode cL_isWhole 238 = .ok (.iconst 1, 1) := by decide +kernel
theorem dL_isWhole_239 : decode cL_isWhole 239 = .ok (.goto 4, 3) := by decide +kernel
theorem dL_isWhole_242 : decode cL_isWhole 242 = .ok (.iconst 0, 1) := by decide +kernel
theorem dL_isWhole_243 : decode cL_isWhole 243 = .ok (.istore 5, 2) := by decide +kernel
theorem dL_isWhole_245 : decode cL_isWhole 245 = .ok (.iinc 6 1, 3) := by decide +kernel
theorem dL_isWhole_248 : decode cL_isWhole 248 = .ok (.goto (-127), 3) := by decide +kernel
theorem dL_isWhole_251 : decode cL_isWhole 251 = .ok (.aload_n 0, 1) := by decide +kernel
theorem dL_isWhole_252 : decode cL_isWhole 252 = .ok (.invokevirtual 108, 3) := by decide +kernel
theorem dL_isWhole_255 : decode cL_isWhole 255 = .ok (.istore 6, 2) := by decide +kernel
theorem dL_isWhole_257 : decode cL_isWhole 257 = .ok (.iload 5, 2) := by decide +kernel
theorem dL_isWhole_259 : decode cL_isWhole 259 = .ok (.ifCond .eq 128, 3) := by decide +kernel
theorem dL_isWhole_262 : decode cL_isWhole 262 = .ok (.iload_n 1, 1) := by decide +kernel
theorem dL_isWhole_263 : decode cL_isWhole 263 = .ok (.aload_n 0, 1) := by decide +kernel
theorem dL_isWhole_264 : decode cL_isWhole 264 = .ok (.invokevirtual 88, 3) := by decide +kernel
theorem dL_isWhole_267 : decode cL_isWhole 267 = .ok (.if_icmp .ne 120, 3) := by decide +kernel
theorem dL_isWhole_270 : decode cL_isWhole 270 = .ok (.iload 4, 2) := by decide +kernel
theorem dL_isWhole_272 : decode cL_isWhole 272 = .ok (.ifCond .le 115, 3) := by decide +kernel
theorem dL_isWhole_275 : decode cL_isWhole 275 = .ok (.iload 4, 2) := by decide +kernel
theorem dL_isWhole_277 : decode cL_isWhole 277 = .ok (.iload_n 1, 1) := by decide +kernel
theorem dL_isWhole_278 : decode cL_isWhole 278 = .ok (.iconst 1, 1) := by decide +kernel
