theorem dX2_isIn_9 : decode cX2_isIn 9 = .ok (.iconst 1, 1) := by decide +kernel
theorem dX2_isIn_10 : decode cX2_isIn 10 = .ok (.goto 4, 3) := by decide +kernel
theorem dX2_isIn_13 : decode cX2_isIn 13 = .ok (.iconst 0, 1) := by decide +kernel
theorem dX2_isIn_14 : decode cX2_isIn 14 = .ok (.ireturn, 1) := by decide +kernel
theorem dX2_powerAt_0 : decode cX2_powerAt 0 = .ok (.iload_n 0, 1) := by decide +kernel
theorem dX2_powerAt_1 : decode cX2_powerAt 1 = .ok (.iload_n 0, 1) := by decide +kernel
theorem dX2_powerAt_2 : decode cX2_powerAt 2 = .ok (.imul, 1) := by decide +kernel
theorem dX2_powerAt_3 : decode cX2_powerAt 3 = .ok (.iload_n 1, 1) := by decide +kernel
theorem dX2_powerAt_4 : decode cX2_powerAt 4 = .ok (.iload_n 1, 1) := by decide +kernel
theorem dX2_powerAt_5 : decode cX2_powerAt 5 = .ok (.imul, 1) := by decide +kernel
theorem dX2_powerAt_6 : decode cX2_powerAt 6 = .ok (.iadd, 1) := by decide +kernel
theorem dX2_powerAt_7 : decode cX2_powerAt 7 = .ok (.ireturn, 1) := by decide +kernel
set_option maxRecDepth 20000 in
theorem ggX2_partOfLowest_X2_greatestDivisor : GoodIn wsX2_partOfLowest wsX2_greatestDivisor := goodIn_r _ [8] (by decide +kernel) (by decide +kernel)
set_option maxRecDepth 20000 in
theorem gX2_partOfLowest_X2_greatestDivisor : GoodIn wsX2_partOfLowest (va_wsS RX2 159 yX2_greatestDivisor wsX2_greatestDivisor) := goodIn_app (goodIn_of _ (by decide +kernel)) ggX2_partOfLowest_X2_greatestDivisor
theorem dX2_partOfLowest_0 : decode cX2_partOfLowest 0 = .ok (.lload_n 0, 1) := by decide +kernel
theorem dX2_partOfLowest_1 : decode cX2_partOfLowest 1 = .ok (.invokestatic 153, 3) := by decide +kernel
theorem dX2_partOfLowest_4 : decode cX2_partOfLowest 4 = .ok (.lload_n 2, 1) := by decide +kernel
theorem dX2_partOfLowest_5 : decode cX2_partOfLowest 5 = .ok (.invokestatic 159, 3) := by decide +kernel
theorem dX2_partOfLowest_8 : decode cX2_partOfLowest 8 = .ok (.lstore 5, 2) := by decide +kernel
theorem dX2_partOfLowest_10 : decode cX2_partOfLowest 10 = .ok (.lload 5, 2) := by decide +kernel
theorem dX2_partOfLowest_12 : decode cX2_partOfLowest 12 = .ok (.lconst 0, 1) := by decide +kernel
theorem dX2_partOfLowest_13 : decode cX2_partOfLowest 13 = .ok (.lcmp, 1) := by decide +kernel
theorem dX2_partOfLowest_14 : decode cX2_partOfLowest 14 = .ok (.ifCond .gt 7, 3) := by decide +kernel
theorem dX2_partOfLowest_17 : decode cX2_partOfLowest 17 = .ok (.iload 4, 2) := by decide +kernel
theorem dX2_partOfLowest_19 : decode cX2_partOfLowest 19 = .ok (.i2l, 1) := by decide +kernel
theorem dX2_partOfLowest_20 : decode cX2_partOfLowest 20 = .ok (.lreturn, 1) := by decide +kernel
theorem dX2_partOfLowest_21 : decode cX2_partOfLowest 21 = .ok (.iload 4, 2) := by decide +kernel
theorem dX2_partOfLowest_23 : decode cX2_partOfLowest 23 = .ok (.ifCond .ne 7, 3) := by decide +kernel
theorem dX2_partOfLowest_26 : decode cX2_partOfLowest 26 = .ok (.lload_n 0, 1) := by decide +kernel
theorem dX2_partOfLowest_27 : decode cX2_partOfLowest 27 = .ok (.goto 4, 3) := by decide +kernel
theorem dX2_partOfLowest_30 : decode cX2_partOfLowest 30 = .ok (.lload_n 2, 1) := by decide +kernel
theorem dX2_partOfLowest_31 : decode cX2_partOfLowest 31 = .ok (.lload 5, 2) := by decide +kernel
theorem dX2_partOfLowest_33 : decode cX2_partOfLowest 33 = .ok (.ldiv, 1) := by decide +kernel
theorem dX2_partOfLowest_34 : decode cX2_partOfLowest 34 = .ok (.lreturn, 1) := by decide +kernel
theorem dX2_greatestDivisor_0 : decode cX2_greatestDivisor 0 = .ok (.lload_n 0, 1) := by decide +kernel
theorem dX2_greatestDivisor_1 : decode cX2_greatestDivisor 1 = .ok (.lstore 4, 2) := by decide +kernel
theorem dX2_greatestDivisor_3 : decode cX2_greatestDivisor 3 = .ok (.lload_n 2, 1) := by decide +kernel
theorem dX2_greatestDivisor_4 : decode cX2_greatestDivisor 4 = .ok (.lstore 6, 2) := by decide +kernel
theorem dX2_greatestDivisor_6 : decode cX2_greatestDivisor 6 = .ok (.iconst 0, 1) := by decide +kernel
theorem dX2_greatestDivisor_7 : decode cX2_greatestDivisor 7 = .ok (.istore 8, 2) := by decide +kernel
theorem dX2_greatestDivisor_9 : decode cX2_greatestDivisor 9 = .ok (.iload 8, 2) := by decide +kernel
theorem dX2_greatestDivisor_11 : decode cX2_greatestDivisor 11 = .ok (.bipush 100, 2) := by decide +kernel
theorem dX2_greatestDivisor_13 : decode cX2_greatestDivisor 13 = .ok (.if_icmp .ge 31, 3) := by decide +kernel
theorem dX2_greatestDivisor_16 : decode cX2_greatestDivisor 16 = .ok (.lload 6, 2) := by decide +kernel
theorem dX2_greatestDivisor_18 : decode cX2_greatestDivisor 18 = .ok (.lconst 0, 1) := by decide +kernel
theorem dX2_greatestDivisor_19 : decode cX2_greatestDivisor 19 = .ok (.lcmp, 1) := by decide +kernel
theorem dX2_greatestDivisor_20 : decode cX2_greatestDivisor 20 = .ok (.ifCond .eq 24, 3) := by decide +kernel
theorem dX2_greatestDivisor_23 : decode cX2_greatestDivisor 23 = .ok (.lload 4, 2) := by decide +kernel
theorem dX2_greatestDivisor_25 : decode cX2_greatestDivisor 25 = .ok (.lload 6, 2) := by decide +kernel
theorem dX2_greatestDivisor_27 : decode cX2_greatestDivisor 27 = .ok (.lrem, 1) := by decide +kernel
theorem dX2_greatestDivisor_28 : decode cX2_greatestDivisor 28 = .ok (.lstore 9, 2) := by decide +kernel
theorem dX2_greatestDivisor_30 : decode cX2_greatestDivisor 30 = .ok (.lload 6, 2) := by decide +kernel
theorem dX2_greatestDivisor_32 : decode cX2_greatestDivisor 32 = .ok (.lstore 4, 2) := by decide +kernel
theorem dX2_greatestDivisor_34 : decode cX2_greatestDivisor 34 = .ok (.lload 9, 2) := by decide +kernel
theorem dX2_greatestDivisor_36 : decode cX2_greatestDivisor 36 = .ok (.lstore 6, 2) := by decide +kernel
theorem dX2_greatestDivisor_38 : decode cX2_greatestDivisor 38 = .ok (.iinc 8 1, 3) := by decide +kernel
theorem dX2_greatestDivisor_41 : decode cX2_greatestDivisor 41 = .ok (.goto (-32), 3) := by decide +kernel
theorem dX2_greatestDivisor_44 : decode cX2_greatestDivisor 44 = .ok (.lload 4, 2) := by decide +kernel
theorem dX2_greatestDivisor_46 : decode cX2_greatestDivisor 46 = .ok (.lreturn, 1) := by decide +kernel
set_option maxRecDepth 20000 in
theorem ggX2_layTheRound_X2_sumUp : GoodIn wsX2_layTheRound wsX2_sumUp := goodIn_r _ [8, 2, 9, 10, 11, 12, 13, 14, 15, 16, 17, 18, 19, 20, 21, 22, 23, 24, 25, 26, 7, 27, 28, 29, 30, 31, 32, 33, 42, 43, 44, 45, 46, 47, 48, 49, 50, 51, 52, 53, 54, 55, 56, 57, 58, 59, 60, 61, 62, 63, 64, 65] (by decide +kernel) (by decide +kernel)
set_option maxRecDepth 20000 in
theorem gX2_layTheRound_X2_sumUp : GoodIn wsX2_layTheRound (wsV RX2 135 RX2 yX2_sumUp wsX2_sumUp) := goodIn_app (goodIn_of _ (by decide +kernel)) ggX2_layTheRound_X2_sumUp
set_option maxRecDepth 20000 in
theorem ggX2_layTheRound_X0_lay : GoodIn wsX2_layTheRound wsX0_lay := goodIn_r _ [37, 16, 19, 17, 20, 18, 21, 23, 22, 24, 38, 39, 40, 41, 53, 54, 55, 56, 57, 58, 59, 60, 61, 62, 63, 64, 65] (by decide +kernel) (by decide +kernel)
set_option maxRecDepth 20000 in
theorem gX2_layTheRound_X0_lay : GoodIn wsX2_layTheRound (wsV RX2 163 RX0 yX0_lay wsX0_lay) := goodIn_app (goodIn_of _ (by decide +kernel)) ggX2_layTheRound_X0_lay
theorem dX2_layTheRound_0 : decode cX2_layTheRound 0 = .ok (.aload_n 0, 1) := by decide +kernel
theorem dX2_layTheRound_1 : decode cX2_layTheRound 1 = .ok (.aload_n 0, 1) := by decide +kernel
theorem dX2_layTheRound_2 : decode cX2_layTheRound 2 = .ok (.getfield 29, 3) := by decide +kernel
theorem dX2_layTheRound_5 : decode cX2_layTheRound 5 = .ok (.aload_n 0, 1) := by decide +kernel
theorem dX2_layTheRound_6 : decode cX2_layTheRound 6 = .ok (.getfield 12, 3) := by decide +kernel
theorem dX2_layTheRound_9 : decode cX2_layTheRound 9 = .ok (.getfield 50, 3) := by decide +kernel
theorem dX2_layTheRound_12 : decode cX2_layTheRound 12 = .ok (.invokevirtual 135, 3) := by decide +kernel
theorem dX2_layTheRound_15 : decode cX2_layTheRound 15 = .ok (.aload_n 0, 1) := by decide +kernel
theorem dX2_layTheRound_16 : decode cX2_layTheRound 16 = .ok (.getfield 29, 3) := by decide +kernel
theorem dX2_layTheRound_19 : decode cX2_layTheRound 19 = .ok (.invokevirtual 163, 3) := by decide +kernel
theorem dX2_layTheRound_22 : decode cX2_layTheRound 22 = .ok (.return_, 1) := by decide +kernel
set_option maxRecDepth 20000 in
theorem ggX2_sumUp_X0_empty : GoodIn wsX2_sumUp wsX0_empty := goodIn_r _ [8, 9, 10, 11, 12, 13, 14, 15, 16, 17, 39, 40, 41, 42, 43, 44, 45, 46, 47, 48, 49, 50, 51] (by decide +kernel) (by decide +kernel)
set_option maxRecDepth 20000 in
theorem gX2_sumUp_X0_empty : GoodIn wsX2_sumUp (wsV RX2 166 RX0 yX0_empty wsX0_empty) := goodIn_app (goodIn_of _ (by decide +kernel)) ggX2_sumUp_X0_empty
set_option maxRecDepth 20000 in
theorem ggX2_sumUp_X2_isIn : GoodIn wsX2_sumUp wsX2_isIn := goodIn_r _ [21] (by decide +kernel) (by decide +kernel)
set_option maxRecDepth 20000 in
theorem gX2_sumUp_X2_isIn : GoodIn wsX2_sumUp (va_wsS RX2 67 yX2_isIn wsX2_isIn) := goodIn_app (goodIn_of _ (by decide +kernel)) ggX2_sumUp_X2_isIn
set_option maxRecDepth 20000 in
theorem ggX2_sumUp_X0_include : GoodIn wsX2_sumUp wsX0_include := goodIn_r _ [25, 9, 10, 11, 12, 13, 14, 15, 16, 17, 26, 20, 27, 39, 40, 41, 42, 43, 44, 45, 46, 47, 48, 49, 50, 51] (by decide +kernel) (by decide +kernel)
set_option maxRecDepth 20000 in
theorem gX2_sumUp_X0_include : GoodIn wsX2_sumUp (wsV RX2 169 RX0 yX0_include wsX0_include) := goodIn_app (goodIn_of _ (by decide +kernel)) ggX2_sumUp_X0_include
theorem dX2_sumUp_0 : decode cX2_sumUp 0 = .ok (.aload_n 1, 1) := by decide +kernel
theorem dX2_sumUp_1 : decode cX2_sumUp 1 = .ok (.invokevirtual 166, 3) := by decide +kernel
theorem dX2_sumUp_4 : decode cX2_sumUp 4 = .ok (.iconst 0, 1) := by decide +kernel
theorem dX2_sumUp_5 : decode cX2_sumUp 5 = .ok (.istore_n 3, 1) := by decide +kernel
theorem dX2_sumUp_6 : decode cX2_sumUp 6 = .ok (.iload_n 3, 1) := by decide +kernel
theorem dX2_sumUp_7 : decode cX2_sumUp 7 = .ok (.bipush 10, 2) := by decide +kernel
theorem dX2_sumUp_9 : decode cX2_sumUp 9 = .ok (.if_icmp .ge 39, 3) := by decide +kernel
theorem dX2_sumUp_12 : decode cX2_sumUp 12 = .ok (.iload_n 2, 1) := by decide +kernel
theorem dX2_sumUp_13 : decode cX2_sumUp 13 = .ok (.iload_n 3, 1) := by decide +kernel
theorem dX2_sumUp_14 : decode cX2_sumUp 14 = .ok (.invokestatic 67, 3) := by decide +kernel
theorem dX2_sumUp_17 : decode cX2_sumUp 17 = .ok (.ifCond .eq 25, 3) := by decide +kernel
theorem dX2_sumUp_20 : decode cX2_sumUp 20 = .ok (.aload_n 1, 1) := by decide +kernel
theorem dX2_sumUp_21 : decode cX2_sumUp 21 = .ok (.aload_n 0, 1) := by decide +kernel
theorem dX2_sumUp_22 : decode cX2_sumUp 22 = .ok (.getfield 12, 3) := by decide +kernel
theorem dX2_sumUp_25 : decode cX2_sumUp 25 = .ok (.getfield 43, 3) := by decide +kernel
theorem dX2_sumUp_28 : decode cX2_sumUp 28 = .ok (.iload_n 3, 1) := by decide +kernel
theorem dX2_sumUp_29 : decode cX2_sumUp 29 = .ok (.iaload, 1) := by decide +kernel
theorem dX2_sumUp_30 : decode cX2_sumUp 30 = .ok (.aload_n 0, 1) := by decide +kernel
theorem dX2_sumUp_31 : decode cX2_sumUp 31 = .ok (.getfield 12, 3) := by decide +kernel
theorem dX2_sumUp_34 : decode cX2_sumUp 34 = .ok (.getfield 47, 3) := by decide +kernel
theorem dX2_sumUp_37 : decode cX2_sumUp 37 = .ok (.iload_n 3, 1) := by decide +kernel
theorem dX2_sumUp_38 : decode cX2_sumUp 38 = .ok (.iaload, 1) := by decide +kernel
theorem dX2_sumUp_39 : decode cX2_sumUp 39 = .ok (.invokevirtual 169, 3) := by decide +kernel
theorem dX2_sumUp_42 : decode cX2_sumUp 42 = .ok (.iinc 3 1, 3) := by decide +kernel
theorem dX2_sumUp_45 : decode cX2_sumUp 45 = .ok (.goto (-39), 3) := by decide +kernel
theorem dX2_sumUp_48 : decode cX2_sumUp 48 = .ok (.return_, 1) := by decide +kernel
set_option maxRecDepth 20000 in
theorem ggX2_sizeUpper_X2_isSample : GoodIn wsX2_sizeUpper wsX2_isSample := goodIn_r _ [12, 1, 13, 26, 27, 28, 29, 30, 31, 32, 33, 34, 35, 36] (by decide +kernel) (by decide +kernel)
set_option maxRecDepth 20000 in
theorem gX2_sizeUpper_X2_isSample : GoodIn wsX2_sizeUpper (wsV RX2 53 RX2 yX2_isSample wsX2_isSample) := goodIn_app (goodIn_of _ (by decide +kernel)) ggX2_sizeUpper_X2_isSample
set_option maxRecDepth 20000 in
theorem ggX2_sizeUpper_X0_offUpperAt : GoodIn wsX2_sizeUpper wsX0_offUpperAt := goodIn_r _ [18, 19, 20, 21, 22, 23, 24, 11, 25, 37, 38, 39, 40, 41, 42, 43, 44, 45, 46, 47, 48, 49] (by decide +kernel) (by decide +kernel)
set_option maxRecDepth 20000 in
theorem gX2_sizeUpper_X0_offUpperAt : GoodIn wsX2_sizeUpper (wsV RX2 110 RX0 yX0_offUpperAt wsX0_offUpperAt) := goodIn_app (goodIn_of _ (by decide +kernel)) ggX2_sizeUpper_X0_offUpperAt
theorem dX2_sizeUpper_0 : decode cX2_sizeUpper 0 = .ok (.aload_n 0, 1) := by decide +kernel
theorem dX2_sizeUpper_1 : decode cX2_sizeUpper 1 = .ok (.iload_n 2, 1) := by decide +kernel
theorem dX2_sizeUpper_2 : decode cX2_sizeUpper 2 = .ok (.invokevirtual 53, 3) := by decide +kernel
theorem dX2_sizeUpper_5 : decode cX2_sizeUpper 5 = .ok (.ifCond .ne 5, 3) := by decide +kernel
theorem dX2_sizeUpper_8 : decode cX2_sizeUpper 8 = .ok (.lconst 0, 1) := by decide +kernel
theorem dX2_sizeUpper_9 : decode cX2_sizeUpper 9 = .ok (.lreturn, 1) := by decide +kernel
theorem dX2_sizeUpper_10 : decode cX2_sizeUpper 10 = .ok (.aload_n 1, 1) := by decide +kernel
theorem dX2_sizeUpper_11 : decode cX2_sizeUpper 11 = .ok (.aload_n 0, 1) := by decide +kernel
theorem dX2_sizeUpper_12 : decode cX2_sizeUpper 12 = .ok (.getfield 12, 3) := by decide +kernel
theorem dX2_sizeUpper_15 : decode cX2_sizeUpper 15 = .ok (.getfield 43, 3) := by decide +kernel
theorem dX2_sizeUpper_18 : decode cX2_sizeUpper 18 = .ok (.iload_n 2, 1) := by decide +kernel
theorem dX2_sizeUpper_19 : decode cX2_sizeUpper 19 = .ok (.iaload, 1) := by decide +kernel
theorem dX2_sizeUpper_20 : decode cX2_sizeUpper 20 = .ok (.aload_n 0, 1) := by decide +kernel
theorem dX2_sizeUpper_21 : decode cX2_sizeUpper 21 = .ok (.getfield 12, 3) := by decide +kernel
theorem dX2_sizeUpper_24 : decode cX2_sizeUpper 24 = .ok (.getfield 47, 3) := by decide +kernel
theorem dX2_sizeUpper_27 : decode cX2_sizeUpper 27 = .ok (.iload_n 2, 1) := by decide +kernel
theorem dX2_sizeUpper_28 : decode cX2_sizeUpper 28 = .ok (.iaload, 1) := by decide +kernel
theorem dX2_sizeUpper_29 : decode cX2_sizeUpper 29 = .ok (.invokevirtual 110, 3) := by decide +kernel
theorem dX2_sizeUpper_32 : decode cX2_sizeUpper 32 = .ok (.invokestatic 153, 3) := by decide +kernel
theorem dX2_sizeUpper_35 : decode cX2_sizeUpper 35 = .ok (.lreturn, 1) := by decide +kernel
set_option maxRecDepth 20000 in
theorem ggX2_worstSample_X2_isIn : GoodIn wsX2_worstSample wsX2_isIn := goodIn_r _ [8] (by decide +kernel) (by decide +kernel)
set_option maxRecDepth 20000 in
theorem gX2_worstSample_X2_isIn : GoodIn wsX2_worstSample (va_wsS RX2 67 yX2_isIn wsX2_isIn) := goodIn_app (goodIn_of _ (by decide +kernel)) ggX2_worstSample_X2_isIn
set_option maxRecDepth 20000 in
theorem ggX2_worstSample_X2_sizeUpper : GoodIn wsX2_worstSample wsX2_sizeUpper := goodIn_r _ [12, 2, 13, 14, 15, 16, 17, 18, 19, 20, 21, 7, 22, 23, 24, 25, 26, 27, 28, 29, 30, 31, 32, 33, 34, 35, 36, 37, 38, 39, 40, 41, 42, 43, 44, 45, 46, 47, 48, 49, 50, 51, 52, 53, 54, 55, 56, 57, 58, 59] (by decide +kernel) (by decide +kernel)
set_option maxRecDepth 20000 in
theorem gX2_worstSample_X2_sizeUpper : GoodIn wsX2_worstSample (wsV RX2 118 RX2 yX2_sizeUpper wsX2_sizeUpper) := goodIn_app (goodIn_of _ (by decide +kernel)) ggX2_worstSample_X2_sizeUpper
theorem dX2_worstSample_0 : decode cX2_worstSample 0 = .ok (.iconst 0, 1) := by decide +kernel
theorem dX2_worstSample_1 : decode cX2_worstSample 1 = .ok (.istore_n 1, 1) := by decide +kernel
theorem dX2_worstSample_2 : decode cX2_worstSample 2 = .ok (.ldc2_w 173, 3) := by decide +kernel
theorem dX2_worstSample_5 : decode cX2_worstSample 5 = .ok (.lstore_n 2, 1) := by decide +kernel
theorem dX2_worstSample_6 : decode cX2_worstSample 6 = .ok (.iconst 0, 1) := by decide +kernel
theorem dX2_worstSample_7 : decode cX2_worstSample 7 = .ok (.istore 4, 2) := by decide +kernel
theorem dX2_worstSample_9 : decode cX2_worstSample 9 = .ok (.iload 4, 2) := by decide +kernel
theorem dX2_worstSample_11 : decode cX2_worstSample 11 = .ok (.bipush 10, 2) := by decide +kernel
theorem dX2_worstSample_13 : decode cX2_worstSample 13 = .ok (.if_icmp .ge 49, 3) := by decide +kernel
theorem dX2_worstSample_16 : decode cX2_worstSample 16 = .ok (.aload_n 0, 1) := by decide +kernel
theorem dX2_worstSample_17 : decode cX2_worstSample 17 = .ok (.getfield 12, 3) := by decide +kernel
theorem dX2_worstSample_20 : decode cX2_worstSample 20 = .ok (.getfield 50, 3) := by decide +kernel
theorem dX2_worstSample_23 : decode cX2_worstSample 23 = .ok (.iload 4, 2) := by decide +kernel
theorem dX2_worstSample_25 : decode cX2_worstSample 25 = .ok (.invokestatic 67, 3) := by decide +kernel
theorem dX2_worstSample_28 : decode cX2_worstSample 28 = .ok (.ifCond .eq 28, 3) := by decide +kernel
theorem dX2_worstSample_31 : decode cX2_worstSample 31 = .ok (.aload_n 0, 1) := by decide +kernel
theorem dX2_worstSample_32 : decode cX2_worstSample 32 = .ok (.aload_n 0, 1) := by decide +kernel
theorem dX2_worstSample_33 : decode cX2_worstSample 33 = .ok (.getfield 29, 3) := by decide +kernel
theorem dX2_worstSample_36 : decode cX2_worstSample 36 = .ok (.iload 4, 2) := by decide +kernel
theorem dX2_worstSample_38 : decode cX2_worstSample 38 = .ok (.invokevirtual 118, 3) := by decide +kernel
theorem dX2_worstSample_41 : decode cX2_worstSample 41 = .ok (.lstore 5, 2) := by decide +kernel
theorem dX2_worstSample_43 : decode cX2_worstSample 43 = .ok (.lload 5, 2) := by decide +kernel
theorem dX2_worstSample_45 : decode cX2_worstSample 45 = .ok (.lload_n 2, 1) := by decide +kernel
theorem dX2_worstSample_46 : decode cX2_worstSample 46 = .ok (.lcmp, 1) := by decide +kernel
theorem dX2_worstSample_47 : decode cX2_worstSample 47 = .ok (.ifCond .le 9, 3) := by decide +kernel
theorem dX2_worstSample_50 : decode cX2_worstSample 50 = .ok (.lload 5, 2) := by decide +kernel
theorem dX2_worstSample_52 : decode cX2_worstSample 52 = .ok (.lstore_n 2, 1) := by decide +kernel
theorem dX2_worstSample_53 : decode cX2_worstSample 53 = .ok (.iload 4, 2) := by decide +kernel
theorem dX2_worstSample_55 : decode cX2_worstSample 55 = .ok (.istore_n 1, 1) := by decide +kernel
theorem dX2_worstSample_56 : decode cX2_worstSample 56 = .ok (.iinc 4 1, 3) := by decide +kernel
theorem dX2_worstSample_59 : decode cX2_worstSample 59 = .ok (.goto (-50), 3) := by decide +kernel
theorem dX2_worstSample_62 : decode cX2_worstSample 62 = .ok (.iload_n 1, 1) := by decide +kernel
theorem dX2_worstSample_63 : decode cX2_worstSample 63 = .ok (.ireturn, 1) := by decide +kernel
set_option maxRecDepth 20000 in
theorem ggX2_coverBy_X2_isIn : GoodIn wsX2_coverBy wsX2_isIn := goodIn_r _ [8] (by decide +kernel) (by decide +kernel)
set_option maxRecDepth 20000 in
theorem gX2_coverBy_X2_isIn : GoodIn wsX2_coverBy (va_wsS RX2 67 yX2_isIn wsX2_isIn) := goodIn_app (goodIn_of _ (by decide +kernel)) ggX2_coverBy_X2_isIn
set_option maxRecDepth 20000 in
theorem ggX2_coverBy_X0_eighthAt : GoodIn wsX2_coverBy wsX0_eighthAt := goodIn_r _ [13, 14, 15, 16, 17, 18, 19, 12, 20, 35, 36, 37, 38, 39, 40, 41, 42, 43, 44, 45, 46, 47] (by decide +kernel) (by decide +kernel)
set_option maxRecDepth 20000 in
theorem gX2_coverBy_X0_eighthAt : GoodIn wsX2_coverBy (wsV RX2 132 RX0 yX0_eighthAt wsX0_eighthAt) := goodIn_app (goodIn_of _ (by decide +kernel)) ggX2_coverBy_X0_eighthAt
set_option maxRecDepth 20000 in
theorem ggX2_coverBy_X2_setOfEighth : GoodIn wsX2_coverBy wsX2_setOfEighth := goodIn_r _ [23] (by decide +kernel) (by decide +kernel)
set_option maxRecDepth 20000 in
theorem gX2_coverBy_X2_setOfEighth : GoodIn wsX2_coverBy (va_wsS RX2 175 yX2_setOfEighth wsX2_setOfEighth) := goodIn_app (goodIn_of _ (by decide +kernel)) ggX2_coverBy_X2_setOfEighth
theorem dX2_coverBy_0 : decode cX2_coverBy 0 = .ok (.iconst 0, 1) := by decide +kernel
theorem dX2_coverBy_1 : decode cX2_coverBy 1 = .ok (.istore_n 2, 1) := by decide +kernel
theorem dX2_coverBy_2 : decode cX2_coverBy 2 = .ok (.iconst 0, 1) := by decide +kernel
theorem dX2_coverBy_3 : decode cX2_coverBy 3 = .ok (.istore_n 3, 1) := by decide +kernel
theorem dX2_coverBy_4 : decode cX2_coverBy 4 = .ok (.iload_n 3, 1) := by decide +kernel
theorem dX2_coverBy_5 : decode cX2_coverBy 5 = .ok (.bipush 10, 2) := by decide +kernel
theorem dX2_coverBy_7 : decode cX2_coverBy 7 = .ok (.if_icmp .ge 51, 3) := by decide +kernel
theorem dX2_coverBy_10 : decode cX2_coverBy 10 = .ok (.aload_n 0, 1) := by decide +kernel
theorem dX2_coverBy_11 : decode cX2_coverBy 11 = .ok (.getfield 12, 3) := by decide +kernel
theorem dX2_coverBy_14 : decode cX2_coverBy 14 = .ok (.getfield 50, 3) := by decide +kernel
theorem dX2_coverBy_17 : decode cX2_coverBy 17 = .ok (.iload_n 3, 1) := by decide +kernel
theorem dX2_coverBy_18 : decode cX2_coverBy 18 = .ok (.invokestatic 67, 3) := by decide +kernel
theorem dX2_coverBy_21 : decode cX2_coverBy 21 = .ok (.ifCond .eq 31, 3) := by decide +kernel
theorem dX2_coverBy_24 : decode cX2_coverBy 24 = .ok (.iload_n 2, 1) := by decide +kernel
theorem dX2_coverBy_25 : decode cX2_coverBy 25 = .ok (.aload_n 1, 1) := by decide +kernel
theorem dX2_coverBy_26 : decode cX2_coverBy 26 = .ok (.aload_n 0, 1) := by decide +kernel
theorem dX2_coverBy_27 : decode cX2_coverBy 27 = .ok (.getfield 12, 3) := by decide +kernel
theorem dX2_coverBy_30 : decode cX2_coverBy 30 = .ok (.getfield 43, 3) := by decide +kernel
theorem dX2_coverBy_33 : decode cX2_coverBy 33 = .ok (.iload_n 3, 1) := by decide +kernel
theorem dX2_coverBy_34 : decode cX2_coverBy 34 = .ok (.iaload, 1) := by decide +kernel
theorem dX2_coverBy_35 : decode cX2_coverBy 35 = .ok (.aload_n 0, 1) := by decide +kernel
theorem dX2_coverBy_36 : decode cX2_coverBy 36 = .ok (.getfield 12, 3) := by decide +kernel
theorem dX2_coverBy_39 : decode cX2_coverBy 39 = .ok (.getfield 47, 3) := by decide +kernel
theorem dX2_coverBy_42 : decode cX2_coverBy 42 = .ok (.iload_n 3, 1) := by decide +kernel
theorem dX2_coverBy_43 : decode cX2_coverBy 43 = .ok (.iaload, 1) := by decide +kernel
theorem dX2_coverBy_44 : decode cX2_coverBy 44 = .ok (.invokevirtual 132, 3) := by decide +kernel
theorem dX2_coverBy_47 : decode cX2_coverBy 47 = .ok (.invokestatic 175, 3) := by decide +kernel
theorem dX2_coverBy_50 : decode cX2_coverBy 50 = .ok (.ior, 1) := by decide +kernel
theorem dX2_coverBy_51 : decode cX2_coverBy 51 = .ok (.istore_n 2, 1) := by decide +kernel
theorem dX2_coverBy_52 : decode cX2_coverBy 52 = .ok (.iinc 3 1, 3) := by decide +kernel
theorem dX2_coverBy_55 : decode cX2_coverBy 55 = .ok (.goto (-51), 3) := by decide +kernel
theorem dX2_coverBy_58 : decode cX2_coverBy 58 = .ok (.iload_n 2, 1) := by decide +kernel
theorem dX2_coverBy_59 : decode cX2_coverBy 59 = .ok (.ireturn, 1) := by decide +kernel
theorem dX2_setOfEighth_0 : decode cX2_setOfEighth 0 = .ok (.iload_n 0, 1) := by decide +kernel
theorem dX2_setOfEighth_1 : decode cX2_setOfEighth 1 = .ok (.ifCond .lt 9, 3) := by decide +kernel
theorem dX2_setOfEighth_4 : decode cX2_setOfEighth 4 = .ok (.iconst 1, 1) := by decide +kernel
theorem dX2_setOfEighth_5 : decode cX2_setOfEighth 5 = .ok (.iload_n 0, 1) := by decide +kernel
theorem dX2_setOfEighth_6 : decode cX2_setOfEighth 6 = .ok (.ishl, 1) := by decide +kernel
theorem dX2_setOfEighth_7 : decode cX2_setOfEighth 7 = .ok (.goto 4, 3) := by decide +kernel
theorem dX2_setOfEighth_10 : decode cX2_setOfEighth 10 = .ok (.iconst 0, 1) := by decide +kernel
theorem dX2_setOfEighth_11 : decode cX2_setOfEighth 11 = .ok (.ireturn, 1) := by decide +kernel
set_option maxRecDepth 20000 in
theorem ggX2_isTheRoundPoor_X0_isFlat : GoodIn wsX2_isTheRoundPoor wsX0_isFlat := goodIn_r _ [8, 9, 52, 53, 54, 55, 56, 57, 58, 59, 60, 61, 62, 63, 64] (by decide +kernel) (by decide +kernel)
set_option maxRecDepth 20000 in
theorem gX2_isTheRoundPoor_X0_isFlat : GoodIn wsX2_isTheRoundPoor (wsV RX2 79 RX0 yX0_isFlat wsX0_isFlat) := goodIn_app (goodIn_of _ (by decide +kernel)) ggX2_isTheRoundPoor_X0_isFlat
set_option maxRecDepth 20000 in
theorem ggX2_isTheRoundPoor_X2_coverBy : GoodIn wsX2_isTheRoundPoor wsX2_coverBy := goodIn_r _ [14, 2, 15, 16, 17, 18, 19, 13, 20, 21, 22, 23, 7, 24, 25, 9, 26, 27, 28, 29, 30, 31, 32, 33, 41, 42, 43, 44, 45, 46, 47, 48, 49, 50, 51, 52, 53, 54, 55, 56, 57, 58, 59, 60, 61, 62, 63, 64] (by decide +kernel) (by decide +kernel)
set_option maxRecDepth 20000 in
theorem gX2_isTheRoundPoor_X2_coverBy : GoodIn wsX2_isTheRoundPoor (wsV RX2 125 RX2 yX2_coverBy wsX2_coverBy) := goodIn_app (goodIn_of _ (by decide +kernel)) ggX2_isTheRoundPoor_X2_coverBy
set_option maxRecDepth 20000 in
theorem ggX2_isTheRoundPoor_J6_bitCount_0f7a4 : GoodIn wsX2_isTheRoundPoor wsJ6_bitCount_0f7a4 := goodIn_r _ [37, 38, 39, 40] (by decide +kernel) (by decide +kernel)
set_option maxRecDepth 20000 in
theorem gX2_isTheRoundPoor_J6_bitCount_0f7a4 : GoodIn wsX2_isTheRoundPoor (va_wsS RX2 61 yJ6_bitCount_0f7a4 wsJ6_bitCount_0f7a4) := goodIn_app (goodIn_of _ (by decide +kernel)) ggX2_isTheRoundPoor_J6_bitCount_0f7a4
theorem dX2_isTheRoundPoor_0 : decode cX2_isTheRoundPoor 0 = .ok (.aload_n 0, 1) := by decide +kernel
theorem dX2_isTheRoundPoor_1 : decode cX2_isTheRoundPoor 1 = .ok (.getfield 29, 3) := by decide +kernel
theorem dX2_isTheRoundPoor_4 : decode cX2_isTheRoundPoor 4 = .ok (.invokevirtual 79, 3) := by decide +kernel
theorem dX2_isTheRoundPoor_7 : decode cX2_isTheRoundPoor 7 = .ok (.ifCond .ne 24, 3) := by decide +kernel
theorem dX2_isTheRoundPoor_10 : decode cX2_isTheRoundPoor 10 = .ok (.aload_n 0, 1) := by decide +kernel
theorem dX2_isTheRoundPoor_11 : decode cX2_isTheRoundPoor 11 = .ok (.aload_n 0, 1) := by decide +kernel
theorem dX2_isTheRoundPoor_12 : decode cX2_isTheRoundPoor 12 = .ok (.getfield 29, 3) := by decide +kernel
theorem dX2_isTheRoundPoor_15 : decode cX2_isTheRoundPoor 15 = .ok (.invokevirtual 125, 3) := by decide +kernel
theorem dX2_isTheRoundPoor_18 : decode cX2_isTheRoundPoor 18 = .ok (.invokestatic 61, 3) := by decide +kernel
theorem dX2_isTheRoundPoor_21 : decode cX2_isTheRoundPoor 21 = .ok (.aload_n 0, 1) := by decide +kernel
theorem dX2_isTheRoundPoor_22 : decode cX2_isTheRoundPoor 22 = .ok (.getfield 12, 3) := by decide +kernel
theorem dX2_isTheRoundPoor_25 : decode cX2_isTheRoundPoor 25 = .ok (.getfield 122, 3) := by decide +kernel
theorem dX2_isTheRoundPoor_28 : decode cX2_isTheRoundPoor 28 = .ok (.if_icmp .ge 7, 3) := by decide +kernel
theorem dX2_isTheRoundPoor_31 : decode cX2_isTheRoundPoor 31 = .ok (.iconst 1, 1) := by decide +kernel
theorem dX2_isTheRoundPoor_32 : decode cX2_isTheRoundPoor 32 = .ok (.goto 4, 3) := by decide +kernel
theorem dX2_isTheRoundPoor_35 : decode cX2_isTheRoundPoor 35 = .ok (.iconst 0, 1) := by decide +kernel
theorem dX2_isTheRoundPoor_36 : decode cX2_isTheRoundPoor 36 = .ok (.ireturn, 1) := by decide +kernel
set_option maxRecDepth 20000 in
theorem ggX2_helpAt_X0_startFrom : GoodIn wsX2_helpAt wsX0_startFrom := goodIn_r _ [9, 10, 11, 12, 13, 14, 15, 16, 17, 18, 77, 78, 79, 80, 81, 82, 83, 84, 85, 86, 87, 88, 89] (by decide +kernel) (by decide +kernel)
set_option maxRecDepth 20000 in
theorem gX2_helpAt_X0_startFrom : GoodIn wsX2_helpAt (wsV RX2 178 RX0 yX0_startFrom wsX0_startFrom) := goodIn_app (goodIn_of _ (by decide +kernel)) ggX2_helpAt_X0_startFrom
set_option maxRecDepth 20000 in
theorem ggX2_helpAt_X0_include : GoodIn wsX2_helpAt wsX0_include := goodIn_r _ [22, 10, 11, 12, 13, 14, 15, 16, 17, 18, 23, 24, 25, 77, 78, 79, 80, 81, 82, 83, 84, 85, 86, 87, 88, 89] (by decide +kernel) (by decide +kernel)
set_option maxRecDepth 20000 in
theorem gX2_helpAt_X0_include : GoodIn wsX2_helpAt (wsV RX2 169 RX0 yX0_include wsX0_include) := goodIn_app (goodIn_of _ (by decide +kernel)) ggX2_helpAt_X0_include
set_option maxRecDepth 20000 in
theorem ggX2_helpAt_X0_lay : GoodIn wsX2_helpAt wsX0_lay := goodIn_r _ [29, 10, 13, 11, 14, 12, 15, 17, 16, 18, 30, 31, 32, 33, 77, 78, 79, 80, 81, 82, 83, 84, 85, 86, 87, 88, 89] (by decide +kernel) (by decide +kernel)
set_option maxRecDepth 20000 in
theorem gX2_helpAt_X0_lay : GoodIn wsX2_helpAt (wsV RX2 163 RX0 yX0_lay wsX0_lay) := goodIn_app (goodIn_of _ (by decide +kernel)) ggX2_helpAt_X0_lay
set_option maxRecDepth 20000 in
theorem ggX2_helpAt_X0_isFlat : GoodIn wsX2_helpAt wsX0_isFlat := goodIn_r _ [37, 30, 77, 78, 79, 80, 81, 82, 83, 84, 85, 86, 87, 88, 89] (by decide +kernel) (by decide +kernel)
set_option maxRecDepth 20000 in
theorem gX2_helpAt_X0_isFlat : GoodIn wsX2_helpAt (wsV RX2 79 RX0 yX0_isFlat wsX0_isFlat) := goodIn_app (goodIn_of _ (by decide +kernel)) ggX2_helpAt_X0_isFlat
set_option maxRecDepth 20000 in
theorem ggX2_helpAt_X0_eighthAt : GoodIn wsX2_helpAt wsX0_eighthAt := goodIn_r _ [41, 42, 30, 31, 32, 43, 44, 8, 45, 77, 78, 79, 80, 81, 82, 83, 84, 85, 86, 87, 88, 89] (by decide +kernel) (by decide +kernel)
set_option maxRecDepth 20000 in
theorem gX2_helpAt_X0_eighthAt : GoodIn wsX2_helpAt (wsV RX2 132 RX0 yX0_eighthAt wsX0_eighthAt) := goodIn_app (goodIn_of _ (by decide +kernel)) ggX2_helpAt_X0_eighthAt
set_option maxRecDepth 20000 in
theorem ggX2_helpAt_X2_setOfEighth : GoodIn wsX2_helpAt wsX2_setOfEighth := goodIn_r _ [48] (by decide +kernel) (by decide +kernel)
set_option maxRecDepth 20000 in
theorem gX2_helpAt_X2_setOfEighth : GoodIn wsX2_helpAt (va_wsS RX2 175 yX2_setOfEighth wsX2_setOfEighth) := goodIn_app (goodIn_of _ (by decide +kernel)) ggX2_helpAt_X2_setOfEighth
set_option maxRecDepth 20000 in
theorem ggX2_helpAt_X2_coverBy : GoodIn wsX2_helpAt wsX2_coverBy := goodIn_r _ [52, 3, 53, 54, 55, 56, 57, 24, 58, 38, 39, 40, 8, 41, 42, 30, 31, 32, 43, 44, 45, 46, 47, 48, 66, 67, 68, 69, 70, 71, 72, 73, 74, 75, 76, 77, 78, 79, 80, 81, 82, 83, 84, 85, 86, 87, 88, 89] (by decide +kernel) (by decide +kernel)
set_option maxRecDepth 20000 in
theorem gX2_helpAt_X2_coverBy : GoodIn wsX2_helpAt (wsV RX2 125 RX2 yX2_coverBy wsX2_coverBy) := goodIn_app (goodIn_of _ (by decide +kernel)) ggX2_helpAt_X2_coverBy
set_option maxRecDepth 20000 in
theorem ggX2_helpAt_J6_bitCount_0f7a4 : GoodIn wsX2_helpAt wsJ6_bitCount_0f7a4 := goodIn_r _ [62, 63, 64, 65] (by decide +kernel) (by decide +kernel)
set_option maxRecDepth 20000 in
theorem gX2_helpAt_J6_bitCount_0f7a4 : GoodIn wsX2_helpAt (va_wsS RX2 61 yJ6_bitCount_0f7a4 wsJ6_bitCount_0f7a4) := goodIn_app (goodIn_of _ (by decide +kernel)) ggX2_helpAt_J6_bitCount_0f7a4
theorem dX2_helpAt_0 : decode cX2_helpAt 0 = .ok (.aload_n 0, 1) := by decide +kernel
theorem dX2_helpAt_1 : decode cX2_helpAt 1 = .ok (.getfield 33, 3) := by decide +kernel
theorem dX2_helpAt_4 : decode cX2_helpAt 4 = .ok (.aload_n 0, 1) := by decide +kernel
theorem dX2_helpAt_5 : decode cX2_helpAt 5 = .ok (.getfield 29, 3) := by decide +kernel
theorem dX2_helpAt_8 : decode cX2_helpAt 8 = .ok (.invokevirtual 178, 3) := by decide +kernel
theorem dX2_helpAt_11 : decode cX2_helpAt 11 = .ok (.aload_n 0, 1) := by decide +kernel
theorem dX2_helpAt_12 : decode cX2_helpAt 12 = .ok (.getfield 33, 3) := by decide +kernel
theorem dX2_helpAt_15 : decode cX2_helpAt 15 = .ok (.iload_n 1, 1) := by decide +kernel
theorem dX2_helpAt_16 : decode cX2_helpAt 16 = .ok (.iload_n 2, 1) := by decide +kernel
theorem dX2_helpAt_17 : decode cX2_helpAt 17 = .ok (.invokevirtual 169, 3) := by decide +kernel
theorem dX2_helpAt_20 : decode cX2_helpAt 20 = .ok (.aload_n 0, 1) := by decide +kernel
theorem dX2_helpAt_21 : decode cX2_helpAt 21 = .ok (.getfield 33, 3) := by decide +kernel
theorem dX2_helpAt_24 : decode cX2_helpAt 24 = .ok (.invokevirtual 163, 3) := by decide +kernel
theorem dX2_helpAt_27 : decode cX2_helpAt 27 = .ok (.aload_n 0, 1) := by decide +kernel
theorem dX2_helpAt_28 : decode cX2_helpAt 28 = .ok (.getfield 33, 3) := by decide +kernel
theorem dX2_helpAt_31 : decode cX2_helpAt 31 = .ok (.invokevirtual 79, 3) := by decide +kernel
theorem dX2_helpAt_34 : decode cX2_helpAt 34 = .ok (.ifCond .eq 5, 3) := by decide +kernel
theorem dX2_helpAt_37 : decode cX2_helpAt 37 = .ok (.iconst 0, 1) := by decide +kernel
theorem dX2_helpAt_38 : decode cX2_helpAt 38 = .ok (.ireturn, 1) := by decide +kernel
theorem dX2_helpAt_39 : decode cX2_helpAt 39 = .ok (.aload_n 0, 1) := by decide +kernel
theorem dX2_helpAt_40 : decode cX2_helpAt 40 = .ok (.getfield 33, 3) := by decide +kernel
theorem dX2_helpAt_43 : decode cX2_helpAt 43 = .ok (.iload_n 1, 1) := by decide +kernel
theorem dX2_helpAt_44 : decode cX2_helpAt 44 = .ok (.iload_n 2, 1) := by decide +kernel
theorem dX2_helpAt_45 : decode cX2_helpAt 45 = .ok (.invokevirtual 132, 3) := by decide +kernel
theorem dX2_helpAt_48 : decode cX2_helpAt 48 = .ok (.invokestatic 175, 3) := by decide +kernel
theorem dX2_helpAt_51 : decode cX2_helpAt 51 = .ok (.istore 4, 2) := by decide +kernel
theorem dX2_helpAt_53 : decode cX2_helpAt 53 = .ok (.iload 4, 2) := by decide +kernel
theorem dX2_helpAt_55 : decode cX2_helpAt 55 = .ok (.iload_n 3, 1) := by decide +kernel
theorem dX2_helpAt_56 : decode cX2_helpAt 56 = .ok (.iconst (-1), 1) := by decide +kernel
theorem dX2_helpAt_57 : decode cX2_helpAt 57 = .ok (.ixor, 1) := by decide +kernel
theorem dX2_helpAt_58 : decode cX2_helpAt 58 = .ok (.iand, 1) := by decide +kernel
theorem dX2_helpAt_59 : decode cX2_helpAt 59 = .ok (.ifCond .ne 5, 3) := by decide +kernel
theorem dX2_helpAt_62 : decode cX2_helpAt 62 = .ok (.iconst 0, 1) := by decide +kernel
theorem dX2_helpAt_63 : decode cX2_helpAt 63 = .ok (.ireturn, 1) := by decide +kernel
theorem dX2_helpAt_64 : decode cX2_helpAt 64 = .ok (.iload 4, 2) := by decide +kernel
theorem dX2_helpAt_66 : decode cX2_helpAt 66 = .ok (.aload_n 0, 1) := by decide +kernel
theorem dX2_helpAt_67 : decode cX2_helpAt 67 = .ok (.aload_n 0, 1) := by decide +kernel
theorem dX2_helpAt_68 : decode cX2_helpAt 68 = .ok (.getfield 33, 3) := by decide +kernel
theorem dX2_helpAt_71 : decode cX2_helpAt 71 = .ok (.invokevirtual 125, 3) := by decide +kernel
theorem dX2_helpAt_74 : decode cX2_helpAt 74 = .ok (.ior, 1) := by decide +kernel
theorem dX2_helpAt_75 : decode cX2_helpAt 75 = .ok (.invokestatic 61, 3) := by decide +kernel
theorem dX2_helpAt_78 : decode cX2_helpAt 78 = .ok (.istore 5, 2) := by decide +kernel
theorem dX2_helpAt_80 : decode cX2_helpAt 80 = .ok (.iload 5, 2) := by decide +kernel
theorem dX2_helpAt_82 : decode cX2_helpAt 82 = .ok (.aload_n 0, 1) := by decide +kernel
theorem dX2_helpAt_83 : decode cX2_helpAt 83 = .ok (.getfield 12, 3) := by decide +kernel
theorem dX2_helpAt_86 : decode cX2_helpAt 86 = .ok (.getfield 122, 3) := by decide +kernel
theorem dX2_helpAt_89 : decode cX2_helpAt 89 = .ok (.if_icmp .lt 8, 3) := by decide +kernel
theorem dX2_helpAt_92 : decode cX2_helpAt 92 = .ok (.iload 4, 2) := by decide +kernel
theorem dX2_helpAt_94 : decode cX2_helpAt 94 = .ok (.goto 4, 3) := by decide +kernel
theorem dX2_helpAt_97 : decode cX2_helpAt 97 = .ok (.iconst 0, 1) := by decide +kernel
theorem dX2_helpAt_98 : decode cX2_helpAt 98 = .ok (.ireturn, 1) := by decide +kernel
set_option maxRecDepth 20000 in
theorem ggX2_isToTrim_J6_bitCount_0f7a4 : GoodIn wsX2_isToTrim wsJ6_bitCount_0f7a4 := goodIn_r _ [7, 8, 9, 10] (by decide +kernel) (by decide +kernel)
set_option maxRecDepth 20000 in
theorem gX2_isToTrim_J6_bitCount_0f7a4 : GoodIn wsX2_isToTrim (va_wsS RX2 61 yJ6_bitCount_0f7a4 wsJ6_bitCount_0f7a4) := goodIn_app (goodIn_of _ (by decide +kernel)) ggX2_isToTrim_J6_bitCount_0f7a4
set_option maxRecDepth 20000 in
theorem ggX2_isToTrim_X0_isFlat : GoodIn wsX2_isToTrim wsX0_isFlat := goodIn_r _ [15, 16, 70, 71, 72, 73, 74, 75, 76, 77, 78, 79, 80, 81, 82] (by decide +kernel) (by decide +kernel)
set_option maxRecDepth 20000 in
theorem gX2_isToTrim_X0_isFlat : GoodIn wsX2_isToTrim (wsV RX2 79 RX0 yX0_isFlat wsX0_isFlat) := goodIn_app (goodIn_of _ (by decide +kernel)) ggX2_isToTrim_X0_isFlat
set_option maxRecDepth 20000 in
theorem ggX2_isToTrim_X2_worstSample : GoodIn wsX2_isToTrim wsX2_worstSample := goodIn_r _ [21, 22, 1, 2, 3, 23, 24, 20, 25, 26, 27, 28, 29, 30, 31, 32, 33, 34, 35, 36, 37, 38, 39, 40, 41, 42, 43, 14, 44, 45, 16, 46, 47, 48, 49, 50, 59, 60, 61, 62, 63, 64, 65, 66, 67, 68, 69, 70, 71, 72, 73, 74, 75, 76, 77, 78, 79, 80, 81, 82] (by decide +kernel) (by decide +kernel)
set_option maxRecDepth 20000 in
theorem gX2_isToTrim_X2_worstSample : GoodIn wsX2_isToTrim (wsV RX2 114 RX2 yX2_worstSample wsX2_worstSample) := goodIn_app (goodIn_of _ (by decide +kernel)) ggX2_isToTrim_X2_worstSample
set_option maxRecDepth 20000 in
theorem ggX2_isToTrim_X2_isSizeAbove : GoodIn wsX2_isToTrim wsX2_isSizeAbove := goodIn_r _ [54, 26, 27, 28, 20, 29, 1, 30, 31, 32, 33, 34, 35, 36, 37, 38, 39, 40, 41, 42, 43, 14, 44, 45, 16, 46, 47, 48, 49, 50, 55, 56, 57, 58, 59, 60, 61, 62, 63, 64, 65, 66, 67, 68, 69, 70, 71, 72, 73, 74, 75, 76, 77, 78, 79, 80, 81, 82] (by decide +kernel) (by decide +kernel)
set_option maxRecDepth 20000 in
theorem gX2_isToTrim_X2_isSizeAbove : GoodIn wsX2_isToTrim (wsV RX2 182 RX2 yX2_isSizeAbove wsX2_isSizeAbove) := goodIn_app (goodIn_of _ (by decide +kernel)) ggX2_isToTrim_X2_isSizeAbove
theorem dX2_isToTrim_0 : decode cX2_isToTrim 0 = .ok (.aload_n 0, 1) := by decide +kernel
theorem dX2_isToTrim_1 : decode cX2_isToTrim 1 = .ok (.getfield 12, 3) := by decide +kernel
theorem dX2_isToTrim_4 : decode cX2_isToTrim 4 = .ok (.getfield 50, 3) := by decide +kernel
theorem dX2_isToTrim_7 : decode cX2_isToTrim 7 = .ok (.invokestatic 61, 3) := by decide +kernel
theorem dX2_isToTrim_10 : decode cX2_isToTrim 10 = .ok (.iconst 4, 1) := by decide +kernel
theorem dX2_isToTrim_11 : decode cX2_isToTrim 11 = .ok (.if_icmp .le 33, 3) := by decide +kernel
theorem dX2_isToTrim_14 : decode cX2_isToTrim 14 = .ok (.aload_n 0, 1) := by decide +kernel
theorem dX2_isToTrim_15 : decode cX2_isToTrim 15 = .ok (.getfield 29, 3) := by decide +kernel
theorem dX2_isToTrim_18 : decode cX2_isToTrim 18 = .ok (.invokevirtual 79, 3) := by decide +kernel
theorem dX2_isToTrim_21 : decode cX2_isToTrim 21 = .ok (.ifCond .ne 23, 3) := by decide +kernel
theorem dX2_isToTrim_24 : decode cX2_isToTrim 24 = .ok (.aload_n 0, 1) := by decide +kernel
theorem dX2_isToTrim_25 : decode cX2_isToTrim 25 = .ok (.aload_n 0, 1) := by decide +kernel
theorem dX2_isToTrim_26 : decode cX2_isToTrim 26 = .ok (.getfield 29, 3) := by decide +kernel
theorem dX2_isToTrim_29 : decode cX2_isToTrim 29 = .ok (.aload_n 0, 1) := by decide +kernel
theorem dX2_isToTrim_30 : decode cX2_isToTrim 30 = .ok (.invokevirtual 114, 3) := by decide +kernel
theorem dX2_isToTrim_33 : decode cX2_isToTrim 33 = .ok (.iload_n 1, 1) := by decide +kernel
theorem dX2_isToTrim_34 : decode cX2_isToTrim 34 = .ok (.invokevirtual 182, 3) := by decide +kernel
theorem dX2_isToTrim_37 : decode cX2_isToTrim 37 = .ok (.ifCond .eq 7, 3) := by decide +kernel
theorem dX2_isToTrim_40 : decode cX2_isToTrim 40 = .ok (.iconst 1, 1) := by decide +kernel
theorem dX2_isToTrim_41 : decode cX2_isToTrim 41 = .ok (.goto 4, 3) := by decide +kernel
theorem dX2_isToTrim_44 : decode cX2_isToTrim 44 = .ok (.iconst 0, 1) := by decide +kernel
theorem dX2_isToTrim_45 : decode cX2_isToTrim 45 = .ok (.ireturn, 1) := by decide +kernel
set_option maxRecDepth 20000 in
theorem ggX2_isSizeAbove_X2_sizeUpper : GoodIn wsX2_isSizeAbove wsX2_sizeUpper := goodIn_r _ [5, 6, 7, 8, 9, 10, 11, 12, 13, 14, 15, 4, 16, 17, 18, 19, 20, 21, 22, 23, 24, 25, 26, 27, 28, 29, 34, 35, 36, 37, 38, 39, 40, 41, 42, 43, 44, 45, 46, 47, 48, 49, 50, 51, 52, 53, 54, 55, 56, 57] (by decide +kernel) (by decide +kernel)
set_option maxRecDepth 20000 in
theorem gX2_isSizeAbove_X2_sizeUpper : GoodIn wsX2_isSizeAbove (wsV RX2 118 RX2 yX2_sizeUpper wsX2_sizeUpper) := goodIn_app (goodIn_of _ (by decide +kernel)) ggX2_isSizeAbove_X2_sizeUpper
set_option maxRecDepth 20000 in
theorem ggX2_isSizeAbove_X0_fullLower : GoodIn wsX2_isSizeAbove wsX0_fullLower := goodIn_r _ [33, 23, 24, 45, 46, 47, 48, 49, 50, 51, 52, 53, 54, 55, 56, 57] (by decide +kernel) (by decide +kernel)
set_option maxRecDepth 20000 in
theorem gX2_isSizeAbove_X0_fullLower : GoodIn wsX2_isSizeAbove (wsV RX2 89 RX0 yX0_fullLower wsX0_fullLower) := goodIn_app (goodIn_of _ (by decide +kernel)) ggX2_isSizeAbove_X0_fullLower
theorem dX2_isSizeAbove_0 : decode cX2_isSizeAbove 0 = .ok (.aload_n 0, 1) := by decide +kernel
theorem dX2_isSizeAbove_1 : decode cX2_isSizeAbove 1 = .ok (.aload_n 1, 1) := by decide +kernel
theorem dX2_isSizeAbove_2 : decode cX2_isSizeAbove 2 = .ok (.iload_n 2, 1) := by decide +kernel
theorem dX2_isSizeAbove_3 : decode cX2_isSizeAbove 3 = .ok (.invokevirtual 118, 3) := by decide +kernel
theorem dX2_isSizeAbove_6 : decode cX2_isSizeAbove 6 = .ok (.iload_n 3, 1) := by decide +kernel
theorem dX2_isSizeAbove_7 : decode cX2_isSizeAbove 7 = .ok (.i2l, 1) := by decide +kernel
theorem dX2_isSizeAbove_8 : decode cX2_isSizeAbove 8 = .ok (.aload_n 1, 1) := by decide +kernel
theorem dX2_isSizeAbove_9 : decode cX2_isSizeAbove 9 = .ok (.invokevirtual 89, 3) := by decide +kernel
theorem dX2_isSizeAbove_12 : decode cX2_isSizeAbove 12 = .ok (.lmul, 1) := by decide +kernel
theorem dX2_isSizeAbove_13 : decode cX2_isSizeAbove 13 = .ok (.lcmp, 1) := by decide +kernel
theorem dX2_isSizeAbove_14 : decode cX2_isSizeAbove 14 = .ok (.ifCond .le 7, 3) := by decide +kernel
theorem dX2_isSizeAbove_17 : decode cX2_isSizeAbove 17 = .ok (.iconst 1, 1) := by decide +kernel
theorem dX2_isSizeAbove_18 : decode cX2_isSizeAbove 18 = .ok (.goto 4, 3) := by decide +kernel
theorem dX2_isSizeAbove_21 : decode cX2_isSizeAbove 21 = .ok (.iconst 0, 1) := by decide +kernel
theorem dX2_isSizeAbove_22 : decode cX2_isSizeAbove 22 = .ok (.ireturn, 1) := by decide +kernel
set_option maxRecDepth 20000 in
theorem ggX2_leastSetToLeaveOut_J6_bitCount_0f7a4 : GoodIn wsX2_leastSetToLeaveOut wsJ6_bitCount_0f7a4 := goodIn_r _ [6, 7, 8, 9] (by decide +kernel) (by decide +kernel)
set_option maxRecDepth 20000 in
theorem gX2_leastSetToLeaveOut_J6_bitCount_0f7a4 : GoodIn wsX2_leastSetToLeaveOut (va_wsS RX2 61 yJ6_bitCount_0f7a4 wsJ6_bitCount_0f7a4) := goodIn_app (goodIn_of _ (by decide +kernel)) ggX2_leastSetToLeaveOut_J6_bitCount_0f7a4
set_option maxRecDepth 20000 in
theorem ggX2_leastSetToLeaveOut_X2_isWithin : GoodIn wsX2_leastSetToLeaveOut wsX2_isWithin := goodIn_r _ [14, 15, 16, 17, 18, 13, 19, 1, 20, 21, 22, 23, 24, 25, 26, 27, 28, 29, 30, 31, 32, 33, 34, 35, 36, 37, 38, 39, 40, 41, 42, 43, 44, 45, 46, 47, 48, 49, 50, 51, 52, 53, 54, 55, 56, 57, 58, 59, 60, 61, 62, 63, 64, 65, 66, 67, 68, 69, 70, 71, 72, 73, 74, 75, 76, 77, 78, 79, 80, 81, 82, 83, 84, 85, 86, 87, 88, 89, 90, 91, 92, 93, 94, 95, 96, 97, 98, 99, 100, 101, 102, 103, 104, 105] (by decide +kernel) (by decide +kernel)
set_option maxRecDepth 20000 in
theorem gX2_leastSetToLeaveOut_X2_isWithin : GoodIn wsX2_leastSetToLeaveOut (wsV RX2 186 RX2 yX2_isWithin wsX2_isWithin) := goodIn_app (goodIn_of _ (by decide +kernel)) ggX2_leastSetToLeaveOut_X2_isWithin
theorem dX2_leastSetToLeaveOut_0 : decode cX2_leastSetToLeaveOut 0 = .ok (.iconst 0, 1) := by decide +kernel
theorem dX2_leastSetToLeaveOut_1 : decode cX2_leastSetToLeaveOut 1 = .ok (.istore_n 3, 1) := by decide +kernel
theorem dX2_leastSetToLeaveOut_2 : decode cX2_leastSetToLeaveOut 2 = .ok (.iload_n 3, 1) := by decide +kernel
theorem dX2_leastSetToLeaveOut_3 : decode cX2_leastSetToLeaveOut 3 = .ok (.sipush 1024, 3) := by decide +kernel
theorem dX2_leastSetToLeaveOut_6 : decode cX2_leastSetToLeaveOut 6 = .ok (.if_icmp .ge 64, 3) := by decide +kernel
theorem dX2_leastSetToLeaveOut_9 : decode cX2_leastSetToLeaveOut 9 = .ok (.iload_n 3, 1) := by decide +kernel
theorem dX2_leastSetToLeaveOut_10 : decode cX2_leastSetToLeaveOut 10 = .ok (.invokestatic 61, 3) := by decide +kernel
theorem dX2_leastSetToLeaveOut_13 : decode cX2_leastSetToLeaveOut 13 = .ok (.iload_n 1, 1) := by decide +kernel
theorem dX2_leastSetToLeaveOut_14 : decode cX2_leastSetToLeaveOut 14 = .ok (.if_icmp .ne 21, 3) := by decide +kernel
theorem dX2_leastSetToLeaveOut_17 : decode cX2_leastSetToLeaveOut 17 = .ok (.iload_n 3, 1) := by decide +kernel
theorem dX2_leastSetToLeaveOut_18 : decode cX2_leastSetToLeaveOut 18 = .ok (.aload_n 0, 1) := by decide +kernel
theorem dX2_leastSetToLeaveOut_19 : decode cX2_leastSetToLeaveOut 19 = .ok (.getfield 12, 3) := by decide +kernel
theorem dX2_leastSetToLeaveOut_22 : decode cX2_leastSetToLeaveOut 22 = .ok (.getfield 50, 3) := by decide +kernel
theorem dX2_leastSetToLeaveOut_25 : decode cX2_leastSetToLeaveOut 25 = .ok (.iconst (-1), 1) := by decide +kernel
theorem dX2_leastSetToLeaveOut_26 : decode cX2_leastSetToLeaveOut 26 = .ok (.ixor, 1) := by decide +kernel
theorem dX2_leastSetToLeaveOut_27 : decode cX2_leastSetToLeaveOut 27 = .ok (.iand, 1) := by decide +kernel
theorem dX2_leastSetToLeaveOut_28 : decode cX2_leastSetToLeaveOut 28 = .ok (.ifCond .ne 7, 3) := by decide +kernel
theorem dX2_leastSetToLeaveOut_31 : decode cX2_leastSetToLeaveOut 31 = .ok (.iconst 1, 1) := by decide +kernel
theorem dX2_leastSetToLeaveOut_32 : decode cX2_leastSetToLeaveOut 32 = .ok (.goto 4, 3) := by decide +kernel
theorem dX2_leastSetToLeaveOut_35 : decode cX2_leastSetToLeaveOut 35 = .ok (.iconst 0, 1) := by decide +kernel
theorem dX2_leastSetToLeaveOut_36 : decode cX2_leastSetToLeaveOut 36 = .ok (.istore 4, 2) := by decide +kernel
theorem dX2_leastSetToLeaveOut_38 : decode cX2_leastSetToLeaveOut 38 = .ok (.iload 4, 2) := by decide +kernel
theorem dX2_leastSetToLeaveOut_40 : decode cX2_leastSetToLeaveOut 40 = .ok (.ifCond .eq 24, 3) := by decide +kernel
theorem dX2_leastSetToLeaveOut_43 : decode cX2_leastSetToLeaveOut 43 = .ok (.aload_n 0, 1) := by decide +kernel
theorem dX2_leastSetToLeaveOut_44 : decode cX2_leastSetToLeaveOut 44 = .ok (.aload_n 0, 1) := by decide +kernel
theorem dX2_leastSetToLeaveOut_45 : decode cX2_leastSetToLeaveOut 45 = .ok (.getfield 12, 3) := by decide +kernel
theorem dX2_leastSetToLeaveOut_48 : decode cX2_leastSetToLeaveOut 48 = .ok (.getfield 50, 3) := by decide +kernel
theorem dX2_leastSetToLeaveOut_51 : decode cX2_leastSetToLeaveOut 51 = .ok (.iload_n 3, 1) := by decide +kernel
theorem dX2_leastSetToLeaveOut_52 : decode cX2_leastSetToLeaveOut 52 = .ok (.iconst (-1), 1) := by decide +kernel
theorem dX2_leastSetToLeaveOut_53 : decode cX2_leastSetToLeaveOut 53 = .ok (.ixor, 1) := by decide +kernel
theorem dX2_leastSetToLeaveOut_54 : decode cX2_leastSetToLeaveOut 54 = .ok (.iand, 1) := by decide +kernel
theorem dX2_leastSetToLeaveOut_55 : decode cX2_leastSetToLeaveOut 55 = .ok (.iload_n 2, 1) := by decide +kernel
theorem dX2_leastSetToLeaveOut_56 : decode cX2_leastSetToLeaveOut 56 = .ok (.invokevirtual 186, 3) := by decide +kernel
theorem dX2_leastSetToLeaveOut_59 : decode cX2_leastSetToLeaveOut 59 = .ok (.ifCond .eq 5, 3) := by decide +kernel
theorem dX2_leastSetToLeaveOut_62 : decode cX2_leastSetToLeaveOut 62 = .ok (.iload_n 3, 1) := by decide +kernel
theorem dX2_leastSetToLeaveOut_63 : decode cX2_leastSetToLeaveOut 63 = .ok (.ireturn, 1) := by decide +kernel
theorem dX2_leastSetToLeaveOut_64 : decode cX2_leastSetToLeaveOut 64 = .ok (.iinc 3 1, 3) := by decide +kernel
theorem dX2_leastSetToLeaveOut_67 : decode cX2_leastSetToLeaveOut 67 = .ok (.goto (-65), 3) := by decide +kernel
theorem dX2_leastSetToLeaveOut_70 : decode cX2_leastSetToLeaveOut 70 = .ok (.bipush (-6), 2) := by decide +kernel
theorem dX2_leastSetToLeaveOut_72 : decode cX2_leastSetToLeaveOut 72 = .ok (.ireturn, 1) := by decide +kernel
set_option maxRecDepth 20000 in
theorem ggX2_isWithin_X2_sumUp : GoodIn wsX2_isWithin wsX2_sumUp := goodIn_r _ [6, 7, 8, 9, 10, 11, 12, 13, 14, 15, 16, 17, 18, 19, 20, 21, 22, 23, 24, 25, 5, 26, 27, 28, 29, 30, 31, 32, 70, 71, 72, 73, 74, 75, 76, 77, 78, 79, 80, 81, 82, 83, 84, 85, 86, 87, 88, 89, 90, 91, 92, 93] (by decide +kernel) (by decide +kernel)
set_option maxRecDepth 20000 in
theorem gX2_isWithin_X2_sumUp : GoodIn wsX2_isWithin (wsV RX2 135 RX2 yX2_sumUp wsX2_sumUp) := goodIn_app (goodIn_of _ (by decide +kernel)) ggX2_isWithin_X2_sumUp
set_option maxRecDepth 20000 in
theorem ggX2_isWithin_X0_lay : GoodIn wsX2_isWithin wsX0_lay := goodIn_r _ [36, 15, 18, 16, 19, 17, 20, 22, 21, 23, 37, 38, 39, 40, 81, 82, 83, 84, 85, 86, 87, 88, 89, 90, 91, 92, 93] (by decide +kernel) (by decide +kernel)
set_option maxRecDepth 20000 in
theorem gX2_isWithin_X0_lay : GoodIn wsX2_isWithin (wsV RX2 163 RX0 yX0_lay wsX0_lay) := goodIn_app (goodIn_of _ (by decide +kernel)) ggX2_isWithin_X0_lay
set_option maxRecDepth 20000 in
theorem ggX2_isWithin_X0_isFlat : GoodIn wsX2_isWithin wsX0_isFlat := goodIn_r _ [44, 37, 81, 82, 83, 84, 85, 86, 87, 88, 89, 90, 91, 92, 93] (by decide +kernel) (by decide +kernel)
set_option maxRecDepth 20000 in
theorem gX2_isWithin_X0_isFlat : GoodIn wsX2_isWithin (wsV RX2 79 RX0 yX0_isFlat wsX0_isFlat) := goodIn_app (goodIn_of _ (by decide +kernel)) ggX2_isWithin_X0_isFlat
set_option maxRecDepth 20000 in
theorem ggX2_isWithin_X2_isIn : GoodIn wsX2_isWithin wsX2_isIn := goodIn_r _ [26] (by decide +kernel) (by decide +kernel)
set_option maxRecDepth 20000 in
theorem gX2_isWithin_X2_isIn : GoodIn wsX2_isWithin (va_wsS RX2 67 yX2_isIn wsX2_isIn) := goodIn_app (goodIn_of _ (by decide +kernel)) ggX2_isWithin_X2_isIn
set_option maxRecDepth 20000 in
theorem ggX2_isWithin_X2_isSizeAbove : GoodIn wsX2_isWithin wsX2_isSizeAbove := goodIn_r _ [48, 49, 50, 51, 5, 52, 7, 8, 9, 53, 54, 55, 56, 57, 58, 59, 60, 61, 62, 63, 64, 13, 65, 15, 37, 38, 39, 40, 31, 32, 66, 67, 68, 69, 70, 71, 72, 73, 74, 75, 76, 77, 78, 79, 80, 81, 82, 83, 84, 85, 86, 87, 88, 89, 90, 91, 92, 93] (by decide +kernel) (by decide +kernel)
set_option maxRecDepth 20000 in
theorem gX2_isWithin_X2_isSizeAbove : GoodIn wsX2_isWithin (wsV RX2 182 RX2 yX2_isSizeAbove wsX2_isSizeAbove) := goodIn_app (goodIn_of _ (by decide +kernel)) ggX2_isWithin_X2_isSizeAbove
theorem dX2_isWithin_0 : decode cX2_isWithin 0 = .ok (.aload_n 0, 1) := by decide +kernel
theorem dX2_isWithin_1 : decode cX2_isWithin 1 = .ok (.aload_n 0, 1) := by decide +kernel
theorem dX2_isWithin_2 : decode cX2_isWithin 2 = .ok (.getfield 33, 3) := by decide +kernel
theorem dX2_isWithin_5 : decode cX2_isWithin 5 = .ok (.iload_n 1, 1) := by decide +kernel
theorem dX2_isWithin_6 : decode cX2_isWithin 6 = .ok (.invokevirtual 135, 3) := by decide +kernel
theorem dX2_isWithin_9 : decode cX2_isWithin 9 = .ok (.aload_n 0, 1) := by decide +kernel
theorem dX2_isWithin_10 : decode cX2_isWithin 10 = .ok (.getfield 33, 3) := by decide +kernel
theorem dX2_isWithin_13 : decode cX2_isWithin 13 = .ok (.invokevirtual 163, 3) := by decide +kernel
theorem dX2_isWithin_16 : decode cX2_isWithin 16 = .ok (.aload_n 0, 1) := by decide +kernel
theorem dX2_isWithin_17 : decode cX2_isWithin 17 = .ok (.getfield 33, 3) := by decide +kernel
theorem dX2_isWithin_20 : decode cX2_isWithin 20 = .ok (.invokevirtual 79, 3) := by decide +kernel
theorem dX2_isWithin_23 : decode cX2_isWithin 23 = .ok (.ifCond .eq 5, 3) := by decide +kernel
theorem dX2_isWithin_26 : decode cX2_isWithin 26 = .ok (.iconst 0, 1) := by decide +kernel
theorem dX2_isWithin_27 : decode cX2_isWithin 27 = .ok (.ireturn, 1) := by decide +kernel
theorem dX2_isWithin_28 : decode cX2_isWithin 28 = .ok (.iconst 0, 1) := by decide +kernel
theorem dX2_isWithin_29 : decode cX2_isWithin 29 = .ok (.istore_n 3, 1) := by decide +kernel
theorem dX2_isWithin_30 : decode cX2_isWithin 30 = .ok (.iload_n 3, 1) := by decide +kernel
theorem dX2_isWithin_31 : decode cX2_isWithin 31 = .ok (.bipush 10, 2) := by decide +kernel
theorem dX2_isWithin_33 : decode cX2_isWithin 33 = .ok (.if_icmp .ge 32, 3) := by decide +kernel
theorem dX2_isWithin_36 : decode cX2_isWithin 36 = .ok (.iload_n 1, 1) := by decide +kernel
theorem dX2_isWithin_37 : decode cX2_isWithin 37 = .ok (.iload_n 3, 1) := by decide +kernel
theorem dX2_isWithin_38 : decode cX2_isWithin 38 = .ok (.invokestatic 67, 3) := by decide +kernel
theorem dX2_isWithin_41 : decode cX2_isWithin 41 = .ok (.ifCond .eq 18, 3) := by decide +kernel
theorem dX2_isWithin_44 : decode cX2_isWithin 44 = .ok (.aload_n 0, 1) := by decide +kernel
theorem dX2_isWithin_45 : decode cX2_isWithin 45 = .ok (.aload_n 0, 1) := by decide +kernel
theorem dX2_isWithin_46 : decode cX2_isWithin 46 = .ok (.getfield 33, 3) := by decide +kernel
theorem dX2_isWithin_49 : decode cX2_isWithin 49 = .ok (.iload_n 3, 1) := by decide +kernel
theorem dX2_isWithin_50 : decode cX2_isWithin 50 = .ok (.iload_n 2, 1) := by decide +kernel
theorem dX2_isWithin_51 : decode cX2_isWithin 51 = .ok (.invokevirtual 182, 3) := by decide +kernel
theorem dX2_isWithin_54 : decode cX2_isWithin 54 = .ok (.ifCond .eq 5, 3) := by decide +kernel
theorem dX2_isWithin_57 : decode cX2_isWithin 57 = .ok (.iconst 0, 1) := by decide +kernel
theorem dX2_isWithin_58 : decode cX2_isWithin 58 = .ok (.ireturn, 1) := by decide +kernel
theorem dX2_isWithin_59 : decode cX2_isWithin 59 = .ok (.iinc 3 1, 3) := by decide +kernel
theorem dX2_isWithin_62 : decode cX2_isWithin 62 = .ok (.goto (-32), 3) := by decide +kernel
theorem dX2_isWithin_65 : decode cX2_isWithin 65 = .ok (.iconst 1, 1) := by decide +kernel
theorem dX2_isWithin_66 : decode cX2_isWithin 66 = .ok (.ireturn, 1) := by decide +kernel
theorem dX3_init_0 : decode cX3_init 0 = .ok (.aload_n 0, 1) := by decide +kernel
theorem dX3_init_1 : decode cX3_init 1 = .ok (.invokespecial 1, 3) := by decide +kernel
theorem dX3_init_4 : decode cX3_init 4 = .ok (.aload_n 0, 1) := by decide +kernel
theorem dX3_init_5 : decode cX3_init 5 = .ok (.bipush 23, 2) := by decide +kernel
theorem dX3_init_7 : decode cX3_init 7 = .ok (.newarray .int, 2) := by decide +kernel
theorem dX3_init_9 : decode cX3_init 9 = .ok (.putfield 7, 3) := by decide +kernel
theorem dX3_init_12 : decode cX3_init 12 = .ok (.aload_n 0, 1) := by decide +kernel
theorem dX3_init_13 : decode cX3_init 13 = .ok (.bipush 46, 2) := by decide +kernel
theorem dX3_init_15 : decode cX3_init 15 = .ok (.newarray .int, 2) := by decide +kernel
theorem dX3_init_17 : decode cX3_init 17 = .ok (.putfield 13, 3) := by decide +kernel
theorem dX3_init_20 : decode cX3_init 20 = .ok (.aload_n 0, 1) := by decide +kernel
theorem dX3_init_21 : decode cX3_init 21 = .ok (.iconst 2, 1) := by decide +kernel
theorem dX3_init_22 : decode cX3_init 22 = .ok (.newarray .boolean, 2) := by decide +kernel
theorem dX3_init_24 : decode cX3_init 24 = .ok (.putfield 16, 3) := by decide +kernel
theorem dX3_init_27 : decode cX3_init 27 = .ok (.aload_n 0, 1) := by decide +kernel
theorem dX3_init_28 : decode cX3_init 28 = .ok (.getfield 7, 3) := by decide +kernel
theorem dX3_init_31 : decode cX3_init 31 = .ok (.bipush 22, 2) := by decide +kernel
theorem dX3_init_33 : decode cX3_init 33 = .ok (.iconst 5, 1) := by decide +kernel
theorem dX3_init_34 : decode cX3_init 34 = .ok (.iastore, 1) := by decide +kernel
theorem dX3_init_35 : decode cX3_init 35 = .ok (.return_, 1) := by decide +kernel
theorem dX3_in_0 : decode cX3_in 0 = .ok (.lload_n 0, 1) := by decide +kernel
theorem dX3_in_1 : decode cX3_in 1 = .ok (.lload_n 2, 1) := by decide +kernel
theorem dX3_in_2 : decode cX3_in 2 = .ok (.lcmp, 1) := by decide +kernel
theorem dX3_in_3 : decode cX3_in 3 = .ok (.ifCond .lt 14, 3) := by decide +kernel
theorem dX3_in_6 : decode cX3_in 6 = .ok (.lload_n 0, 1) := by decide +kernel
theorem dX3_in_7 : decode cX3_in 7 = .ok (.lload 4, 2) := by decide +kernel
theorem dX3_in_9 : decode cX3_in 9 = .ok (.lcmp, 1) := by decide +kernel
theorem dX3_in_10 : decode cX3_in 10 = .ok (.ifCond .gt 7, 3) := by decide +kernel
theorem dX3_in_13 : decode cX3_in 13 = .ok (.iconst 1, 1) := by decide +kernel
theorem dX3_in_14 : decode cX3_in 14 = .ok (.goto 4, 3) := by decide +kernel
theorem dX3_in_17 : decode cX3_in 17 = .ok (.iconst 0, 1) := by decide +kernel
theorem dX3_in_18 : decode cX3_in 18 = .ok (.ireturn, 1) := by decide +kernel
set_option maxRecDepth 20000 in
theorem ggX3_isSample_X3_in : GoodIn wsX3_isSample wsX3_in := goodIn_r _ [5] (by decide +kernel) (by decide +kernel)
set_option maxRecDepth 20000 in
theorem gX3_isSample_X3_in : GoodIn wsX3_isSample (va_wsS RX3 20 yX3_in wsX3_in) := goodIn_app (goodIn_of _ (by decide +kernel)) ggX3_isSample_X3_in
theorem dX3_isSample_0 : decode cX3_isSample 0 = .ok (.iload_n 1, 1) := by decide +kernel
theorem dX3_isSample_1 : decode cX3_isSample 1 = .ok (.i2l, 1) := by decide +kernel
theorem dX3_isSample_2 : decode cX3_isSample 2 = .ok (.lconst 0, 1) := by decide +kernel
theorem dX3_isSample_3 : decode cX3_isSample 3 = .ok (.aload_n 0, 1) := by decide +kernel
theorem dX3_isSample_4 : decode cX3_isSample 4 = .ok (.getfield 7, 3) := by decide +kernel
theorem dX3_isSample_7 : decode cX3_isSample 7 = .ok (.bipush 20, 2) := by decide +kernel
theorem dX3_isSample_9 : decode cX3_isSample 9 = .ok (.iaload, 1) := by decide +kernel
theorem dX3_isSample_10 : decode cX3_isSample 10 = .ok (.iconst 1, 1) := by decide +kernel
theorem dX3_isSample_11 : decode cX3_isSample 11 = .ok (.isub, 1) := by decide +kernel
theorem dX3_isSample_12 : decode cX3_isSample 12 = .ok (.i2l, 1) := by decide +kernel
theorem dX3_isSample_13 : decode cX3_isSample 13 = .ok (.invokestatic 20, 3) := by decide +kernel
theorem dX3_isSample_16 : decode cX3_isSample 16 = .ok (.ireturn, 1) := by decide +kernel
set_option maxRecDepth 20000 in
theorem ggX3_isHere_X3_in : GoodIn wsX3_isHere wsX3_in := goodIn_r _ [6] (by decide +kernel) (by decide +kernel)
set_option maxRecDepth 20000 in
theorem gX3_isHere_X3_in : GoodIn wsX3_isHere (va_wsS RX3 20 yX3_in wsX3_in) := goodIn_app (goodIn_of _ (by decide +kernel)) ggX3_isHere_X3_in
theorem dX3_isHere_0 : decode cX3_isHere 0 = .ok (.iload_n 0, 1) := by decide +kernel
theorem dX3_isHere_1 : decode cX3_isHere 1 = .ok (.i2l, 1) := by decide +kernel
theorem dX3_isHere_2 : decode cX3_isHere 2 = .ok (.ldc2_w 24, 3) := by decide +kernel
theorem dX3_isHere_5 : decode cX3_isHere 5 = .ok (.ldc2_w 26, 3) := by decide +kernel
theorem dX3_isHere_8 : decode cX3_isHere 8 = .ok (.invokestatic 20, 3) := by decide +kernel
theorem dX3_isHere_11 : decode cX3_isHere 11 = .ok (.ifCond .eq 21, 3) := by decide +kernel
theorem dX3_isHere_14 : decode cX3_isHere 14 = .ok (.iload_n 1, 1) := by decide +kernel
theorem dX3_isHere_15 : decode cX3_isHere 15 = .ok (.i2l, 1) := by decide +kernel
theorem dX3_isHere_16 : decode cX3_isHere 16 = .ok (.ldc2_w 24, 3) := by decide +kernel
theorem dX3_isHere_19 : decode cX3_isHere 19 = .ok (.ldc2_w 26, 3) := by decide +kernel
theorem dX3_isHere_22 : decode cX3_isHere 22 = .ok (.invokestatic 20, 3) := by decide +kernel
theorem dX3_isHere_25 : decode cX3_isHere 25 = .ok (.ifCond .eq 7, 3) := by decide +kernel
theorem dX3_isHere_28 : decode cX3_isHere 28 = .ok (.iconst 1, 1) := by decide +kernel
theorem dX3_isHere_29 : decode cX3_isHere 29 = .ok (.goto 4, 3) := by decide +kernel
theorem dX3_isHere_32 : decode cX3_isHere 32 = .ok (.iconst 0, 1) := by decide +kernel
theorem dX3_isHere_33 : decode cX3_isHere 33 = .ok (.ireturn, 1) := by decide +kernel
theorem dX3_size_0 : decode cX3_size 0 = .ok (.iconst 0, 1) := by decide +kernel
theorem dX3_size_1 : decode cX3_size 1 = .ok (.istore_n 1, 1) := by decide +kernel
theorem dX3_size_2 : decode cX3_size 2 = .ok (.iconst 0, 1) := by decide +kernel
theorem dX3_size_3 : decode cX3_size 3 = .ok (.istore_n 2, 1) := by decide +kernel
theorem dX3_size_4 : decode cX3_size 4 = .ok (.iload_n 2, 1) := by decide +kernel
theorem dX3_size_5 : decode cX3_size 5 = .ok (.bipush 10, 2) := by decide +kernel
theorem dX3_size_7 : decode cX3_size 7 = .ok (.if_icmp .ge 17, 3) := by decide +kernel
theorem dX3_size_10 : decode cX3_size 10 = .ok (.iload_n 1, 1) := by decide +kernel
theorem dX3_size_11 : decode cX3_size 11 = .ok (.iload_n 0, 1) := by decide +kernel
theorem dX3_size_12 : decode cX3_size 12 = .ok (.iload_n 2, 1) := by decide +kernel
theorem dX3_size_13 : decode cX3_size 13 = .ok (.ishr, 1) := by decide +kernel
theorem dX3_size_14 : decode cX3_size 14 = .ok (.iconst 1, 1) := by decide +kernel
theorem dX3_size_15 : decode cX3_size 15 = .ok (.iand, 1) := by decide +kernel
theorem dX3_size_16 : decode cX3_size 16 = .ok (.iadd, 1) := by decide +kernel
theorem dX3_size_17 : decode cX3_size 17 = .ok (.istore_n 1, 1) := by decide +kernel
theorem dX3_size_18 : decode cX3_size 18 = .ok (.iinc 2 1, 3) := by decide +kernel
theorem dX3_size_21 : decode cX3_size 21 = .ok (.goto (-17), 3) := by decide +kernel
theorem dX3_size_24 : decode cX3_size 24 = .ok (.iload_n 1, 1) := by decide +kernel
theorem dX3_size_25 : decode cX3_size 25 = .ok (.ireturn, 1) := by decide +kernel
theorem dX3_power_0 : decode cX3_power 0 = .ok (.iload_n 0, 1) := by decide +kernel
theorem dX3_power_1 : decode cX3_power 1 = .ok (.iload_n 0, 1) := by decide +kernel
theorem dX3_power_2 : decode cX3_power 2 = .ok (.imul, 1) := by decide +kernel
theorem dX3_power_3 : decode cX3_power 3 = .ok (.iload_n 1, 1) := by decide +kernel
theorem dX3_power_4 : decode cX3_power 4 = .ok (.iload_n 1, 1) := by decide +kernel
theorem dX3_power_5 : decode cX3_power 5 = .ok (.imul, 1) := by decide +kernel
theorem dX3_power_6 : decode cX3_power 6 = .ok (.iadd, 1) := by decide +kernel
theorem dX3_power_7 : decode cX3_power 7 = .ok (.ireturn, 1) := by decide +kernel
set_option maxRecDepth 20000 in
theorem ggX3_add_X3_isHere : GoodIn wsX3_add wsX3_isHere := goodIn_r _ [5, 6, 7, 8, 9, 4, 10] (by decide +kernel) (by decide +kernel)
set_option maxRecDepth 20000 in
theorem gX3_add_X3_isHere : GoodIn wsX3_add (va_wsS RX3 28 yX3_isHere wsX3_isHere) := goodIn_app (goodIn_of _ (by decide +kernel)) ggX3_add_X3_isHere
theorem dX3_add_0 : decode cX3_add 0 = .ok (.iload_n 1, 1) := by decide +kernel
theorem dX3_add_1 : decode cX3_add 1 = .ok (.iload_n 2, 1) := by decide +kernel
theorem dX3_add_2 : decode cX3_add 2 = .ok (.invokestatic 28, 3) := by decide +kernel
theorem dX3_add_5 : decode cX3_add 5 = .ok (.ifCond .ne 6, 3) := by decide +kernel
theorem dX3_add_8 : decode cX3_add 8 = .ok (.bipush (-2), 2) := by decide +kernel
theorem dX3_add_10 : decode cX3_add 10 = .ok (.ireturn, 1) := by decide +kernel
theorem dX3_add_11 : decode cX3_add 11 = .ok (.aload_n 0, 1) := by decide +kernel
theorem dX3_add_12 : decode cX3_add 12 = .ok (.getfield 7, 3) := by decide +kernel
theorem dX3_add_15 : decode cX3_add 15 = .ok (.bipush 20, 2) := by decide +kernel
theorem dX3_add_17 : decode cX3_add 17 = .ok (.iaload, 1) := by decide +kernel
theorem dX3_add_18 : decode cX3_add 18 = .ok (.istore_n 3, 1) := by decide +kernel
theorem dX3_add_19 : decode cX3_add 19 = .ok (.iload_n 3, 1) := by decide +kernel
theorem dX3_add_20 : decode cX3_add 20 = .ok (.bipush 10, 2) := by decide +kernel
theorem dX3_add_22 : decode cX3_add 22 = .ok (.if_icmp .ne 6, 3) := by decide +kernel
theorem dX3_add_25 : decode cX3_add 25 = .ok (.bipush (-4), 2) := by decide +kernel
theorem dX3_add_27 : decode cX3_add 27 = .ok (.ireturn, 1) := by decide +kernel
theorem dX3_add_28 : decode cX3_add 28 = .ok (.aload_n 0, 1) := by decide +kernel
theorem dX3_add_29 : decode cX3_add 29 = .ok (.getfield 7, 3) := by decide +kernel
theorem dX3_add_32 : decode cX3_add 32 = .ok (.iconst 0, 1) := by decide +kernel
theorem dX3_add_33 : decode cX3_add 33 = .ok (.iload_n 3, 1) := by decide +kernel
theorem dX3_add_34 : decode cX3_add 34 = .ok (.iadd, 1) := by decide +kernel
theorem dX3_add_35 : decode cX3_add 35 = .ok (.iload_n 1, 1) := by decide +kernel
theorem dX3_add_36 : decode cX3_add 36 = .ok (.iastore, 1) := by decide +kernel
theorem dX3_add_37 : decode cX3_add 37 = .ok (.aload_n 0, 1) := by decide +kernel
theorem dX3_add_38 : decode cX3_add 38 = .ok (.getfield 7, 3) := by decide +kernel
theorem dX3_add_41 : decode cX3_add 41 = .ok (.bipush 10, 2) := by decide +kernel
theorem dX3_add_43 : decode cX3_add 43 = .ok (.iload_n 3, 1) := by decide +kernel
theorem dX3_add_44 : decode cX3_add 44 = .ok (.iadd, 1) := by decide +kernel
theorem dX3_add_45 : decode cX3_add 45 = .ok (.iload_n 2, 1) := by decide +kernel
theorem dX3_add_46 : decode cX3_add 46 = .ok (.iastore, 1) := by decide +kernel
theorem dX3_add_47 : decode cX3_add 47 = .ok (.aload_n 0, 1) := by decide +kernel
theorem dX3_add_48 : decode cX3_add 48 = .ok (.getfield 7, 3) := by decide +kernel
theorem dX3_add_51 : decode cX3_add 51 = .ok (.bipush 21, 2) := by decide +kernel
theorem dX3_add_53 : decode cX3_add 53 = .ok (.dup2, 1) := by decide +kernel
theorem dX3_add_54 : decode cX3_add 54 = .ok (.iaload, 1) := by decide +kernel
theorem dX3_add_55 : decode cX3_add 55 = .ok (.iconst 1, 1) := by decide +kernel
theorem dX3_add_56 : decode cX3_add 56 = .ok (.iload_n 3, 1) := by decide +kernel
theorem dX3_add_57 : decode cX3_add 57 = .ok (.ishl, 1) := by decide +kernel
theorem dX3_add_58 : decode cX3_add 58 = .ok (.ior, 1) := by decide +kernel
theorem dX3_add_59 : decode cX3_add 59 = .ok (.iastore, 1) := by decide +kernel
theorem dX3_add_60 : decode cX3_add 60 = .ok (.aload_n 0, 1) := by decide +kernel
theorem dX3_add_61 : decode cX3_add 61 = .ok (.getfield 7, 3) := by decide +kernel
theorem dX3_add_64 : decode cX3_add 64 = .ok (.bipush 20, 2) := by decide +kernel
theorem dX3_add_66 : decode cX3_add 66 = .ok (.dup2, 1) := by decide +kernel
theorem dX3_add_67 : decode cX3_add 67 = .ok (.iaload, 1) := by decide +kernel
theorem dX3_add_68 : decode cX3_add 68 = .ok (.iconst 1, 1) := by decide +kernel
theorem dX3_add_69 : decode cX3_add 69 = .ok (.iadd, 1) := by decide +kernel
theorem dX3_add_70 : decode cX3_add 70 = .ok (.iastore, 1) := by decide +kernel
theorem dX3_add_71 : decode cX3_add 71 = .ok (.iload_n 3, 1) := by decide +kernel
theorem dX3_add_72 : decode cX3_add 72 = .ok (.ireturn, 1) := by decide +kernel
theorem dX3_clear_0 : decode cX3_clear 0 = .ok (.aload_n 0, 1) := by decide +kernel
theorem dX3_clear_1 : decode cX3_clear 1 = .ok (.getfield 7, 3) := by decide +kernel
theorem dX3_clear_4 : decode cX3_clear 4 = .ok (.bipush 20, 2) := by decide +kernel
theorem dX3_clear_6 : decode cX3_clear 6 = .ok (.iaload, 1) := by decide +kernel
theorem dX3_clear_7 : decode cX3_clear 7 = .ok (.istore_n 1, 1) := by decide +kernel
theorem dX3_clear_8 : decode cX3_clear 8 = .ok (.aload_n 0, 1) := by decide +kernel
theorem dX3_clear_9 : decode cX3_clear 9 = .ok (.getfield 7, 3) := by decide +kernel
theorem dX3_clear_12 : decode cX3_clear 12 = .ok (.bipush 20, 2) := by decide +kernel
theorem dX3_clear_14 : decode cX3_clear 14 = .ok (.iconst 0, 1) := by decide +kernel
theorem dX3_clear_15 : decode cX3_clear 15 = .ok (.iastore, 1) := by decide +kernel
theorem dX3_clear_16 : decode cX3_clear 16 = .ok (.aload_n 0, 1) := by decide +kernel
theorem dX3_clear_17 : decode cX3_clear 17 = .ok (.getfield 7, 3) := by decide +kernel
theorem dX3_clear_20 : decode cX3_clear 20 = .ok (.bipush 21, 2) := by decide +kernel
theorem dX3_clear_22 : decode cX3_clear 22 = .ok (.iconst 0, 1) := by decide +kernel
theorem dX3_clear_23 : decode cX3_clear 23 = .ok (.iastore, 1) := by decide +kernel
theorem dX3_clear_24 : decode cX3_clear 24 = .ok (.iload_n 1, 1) := by decide +kernel
theorem dX3_clear_25 : decode cX3_clear 25 = .ok (.ireturn, 1) := by decide +kernel
set_option maxRecDepth 20000 in
theorem ggX3_take_X3_isSample : GoodIn wsX3_take wsX3_isSample := goodIn_r _ [6, 1, 7, 8, 5, 9, 13, 14, 15, 16, 17, 18, 19, 20, 21, 22, 23, 24, 25, 26, 27, 28] (by decide +kernel) (by decide +kernel)
set_option maxRecDepth 20000 in
theorem gX3_take_X3_isSample : GoodIn wsX3_take (wsV RX3 32 RX3 yX3_isSample wsX3_isSample) := goodIn_app (goodIn_of _ (by decide +kernel)) ggX3_take_X3_isSample
set_option maxRecDepth 20000 in
theorem ggX3_take_X3_in : GoodIn wsX3_take wsX3_in := goodIn_r _ [9] (by decide +kernel) (by decide +kernel)
set_option maxRecDepth 20000 in
theorem gX3_take_X3_in : GoodIn wsX3_take (va_wsS RX3 20 yX3_in wsX3_in) := goodIn_app (goodIn_of _ (by decide +kernel)) ggX3_take_X3_in
set_option maxRecDepth 20000 in
theorem ggX3_take_X3_size : GoodIn wsX3_take wsX3_size := goodIn_r _ [12] (by decide +kernel) (by decide +kernel)
set_option maxRecDepth 20000 in
theorem gX3_take_X3_size : GoodIn wsX3_take (va_wsS RX3 36 yX3_size wsX3_size) := goodIn_app (goodIn_of _ (by decide +kernel)) ggX3_take_X3_size
theorem dX3_take_0 : decode cX3_take 0 = .ok (.aload_n 0, 1) := by decide +kernel
theorem dX3_take_1 : decode cX3_take 1 = .ok (.iload_n 1, 1) := by decide +kernel
theorem dX3_take_2 : decode cX3_take 2 = .ok (.invokevirtual 32, 3) := by decide +kernel
theorem dX3_take_5 : decode cX3_take 5 = .ok (.ifCond .ne 5, 3) := by decide +kernel
theorem dX3_take_8 : decode cX3_take 8 = .ok (.iconst (-1), 1) := by decide +kernel
theorem dX3_take_9 : decode cX3_take 9 = .ok (.ireturn, 1) := by decide +kernel
theorem dX3_take_10 : decode cX3_take 10 = .ok (.iload_n 2, 1) := by decide +kernel
theorem dX3_take_11 : decode cX3_take 11 = .ok (.i2l, 1) := by decide +kernel
theorem dX3_take_12 : decode cX3_take 12 = .ok (.lconst 0, 1) := by decide +kernel
theorem dX3_take_13 : decode cX3_take 13 = .ok (.lconst 1, 1) := by decide +kernel
theorem dX3_take_14 : decode cX3_take 14 = .ok (.invokestatic 20, 3) := by decide +kernel
theorem dX3_take_17 : decode cX3_take 17 = .ok (.ifCond .ne 6, 3) := by decide +kernel
theorem dX3_take_20 : decode cX3_take 20 = .ok (.bipush (-2), 2) := by decide +kernel
theorem dX3_take_22 : decode cX3_take 22 = .ok (.ireturn, 1) := by decide +kernel
theorem dX3_take_23 : decode cX3_take 23 = .ok (.aload_n 0, 1) := by decide +kernel
theorem dX3_take_24 : decode cX3_take 24 = .ok (.getfield 7, 3) := by decide +kernel
theorem dX3_take_27 : decode cX3_take 27 = .ok (.bipush 21, 2) := by decide +kernel
theorem dX3_take_29 : decode cX3_take 29 = .ok (.aload_n 0, 1) := by decide +kernel
theorem dX3_take_30 : decode cX3_take 30 = .ok (.getfield 7, 3) := by decide +kernel
theorem dX3_take_33 : decode cX3_take 33 = .ok (.bipush 21, 2) := by decide +kernel
theorem dX3_take_35 : decode cX3_take 35 = .ok (.iaload, 1) := by decide +kernel
theorem dX3_take_36 : decode cX3_take 36 = .ok (.iconst 1, 1) := by decide +kernel
theorem dX3_take_37 : decode cX3_take 37 = .ok (.iload_n 1, 1) := by decide +kernel
theorem dX3_take_38 : decode cX3_take 38 = .ok (.ishl, 1) := by decide +kernel
theorem dX3_take_39 : decode cX3_take 39 = .ok (.iconst (-1), 1) := by decide +kernel
theorem dX3_take_40 : decode cX3_take 40 = .ok (.ixor, 1) := by decide +kernel
theorem dX3_take_41 : decode cX3_take 41 = .ok (.iand, 1) := by decide +kernel
theorem dX3_take_42 : decode cX3_take 42 = .ok (.iload_n 2, 1) := by decide +kernel
theorem dX3_take_43 : decode cX3_take 43 = .ok (.iload_n 1, 1) := by decide +kernel
theorem dX3_take_44 : decode cX3_take 44 = .ok (.ishl, 1) := by decide +kernel
theorem dX3_take_45 : decode cX3_take 45 = .ok (.ior, 1) := by decide +kernel
theorem dX3_take_46 : decode cX3_take 46 = .ok (.iastore, 1) := by decide +kernel
theorem dX3_take_47 : decode cX3_take 47 = .ok (.aload_n 0, 1) := by decide +kernel
theorem dX3_take_48 : decode cX3_take 48 = .ok (.getfield 7, 3) := by decide +kernel
theorem dX3_take_51 : decode cX3_take 51 = .ok (.bipush 21, 2) := by decide +kernel
theorem dX3_take_53 : decode cX3_take 53 = .ok (.iaload, 1) := by decide +kernel
theorem dX3_take_54 : decode cX3_take 54 = .ok (.invokestatic 36, 3) := by decide +kernel
theorem dX3_take_57 : decode cX3_take 57 = .ok (.ireturn, 1) := by decide +kernel
set_option maxRecDepth 20000 in
theorem ggX3_of_X3_isSample : GoodIn wsX3_of wsX3_isSample := goodIn_r _ [6, 1, 7, 8, 5, 9, 13, 14, 15, 16, 17, 18, 19, 20, 21, 22, 23, 24, 25, 26, 27, 28] (by decide +kernel) (by decide +kernel)
set_option maxRecDepth 20000 in
theorem gX3_of_X3_isSample : GoodIn wsX3_of (wsV RX3 32 RX3 yX3_isSample wsX3_isSample) := goodIn_app (goodIn_of _ (by decide +kernel)) ggX3_of_X3_isSample
set_option maxRecDepth 20000 in
theorem ggX3_of_X3_power : GoodIn wsX3_of wsX3_power := goodIn_r _ [12] (by decide +kernel) (by decide +kernel)
set_option maxRecDepth 20000 in
theorem gX3_of_X3_power : GoodIn wsX3_of (va_wsS RX3 40 yX3_power wsX3_power) := goodIn_app (goodIn_of _ (by decide +kernel)) ggX3_of_X3_power
theorem dX3_of_0 : decode cX3_of 0 = .ok (.aload_n 0, 1) := by decide +kernel
theorem dX3_of_1 : decode cX3_of 1 = .ok (.iload_n 1, 1) := by decide +kernel
theorem dX3_of_2 : decode cX3_of 2 = .ok (.invokevirtual 32, 3) := by decide +kernel
theorem dX3_of_5 : decode cX3_of 5 = .ok (.ifCond .ne 5, 3) := by decide +kernel
theorem dX3_of_8 : decode cX3_of 8 = .ok (.iconst (-1), 1) := by decide +kernel
theorem dX3_of_9 : decode cX3_of 9 = .ok (.ireturn, 1) := by decide +kernel
theorem dX3_of_10 : decode cX3_of 10 = .ok (.iload_n 2, 1) := by decide +kernel
theorem dX3_of_11 : decode cX3_of 11 = .ok (.tableswitch 87 0 3 #[29, 41, 54, 66], 29) := by decide +kernel
theorem dX3_of_40 : decode cX3_of 40 = .ok (.aload_n 0, 1) := by decide +kernel
theorem dX3_of_41 : decode cX3_of 41 = .ok (.getfield 7, 3) := by decide +kernel
theorem dX3_of_44 : decode cX3_of 44 = .ok (.iconst 0, 1) := by decide +kernel
theorem dX3_of_45 : decode cX3_of 45 = .ok (.iload_n 1, 1) := by decide +kernel
theorem dX3_of_46 : decode cX3_of 46 = .ok (.iadd, 1) := by decide +kernel
theorem dX3_of_47 : decode cX3_of 47 = .ok (.iaload, 1) := by decide +kernel
theorem dX3_of_48 : decode cX3_of 48 = .ok (.bipush 100, 2) := by decide +kernel
theorem dX3_of_50 : decode cX3_of 50 = .ok (.iadd, 1) := by decide +kernel
theorem dX3_of_51 : decode cX3_of 51 = .ok (.ireturn, 1) := by decide +kernel
theorem dX3_of_52 : decode cX3_of 52 = .ok (.aload_n 0, 1) := by decide +kernel
theorem dX3_of_53 : decode cX3_of 53 = .ok (.getfield 7, 3) := by decide +kernel
theorem dX3_of_56 : decode cX3_of 56 = .ok (.bipush 10, 2) := by decide +kernel
theorem dX3_of_58 : decode cX3_of 58 = .ok (.iload_n 1, 1) := by decide +kernel
theorem dX3_of_59 : decode cX3_of 59 = .ok (.iadd, 1) := by decide +kernel
theorem dX3_of_60 : decode cX3_of 60 = .ok (.iaload, 1) := by decide +kernel
theorem dX3_of_61 : decode cX3_of 61 = .ok (.bipush 100, 2) := by decide +kernel
theorem dX3_of_63 : decode cX3_of 63 = .ok (.iadd, 1) := by decide +kernel
theorem dX3_of_64 : decode cX3_of 64 = .ok (.ireturn, 1) := by decide +kernel
theorem dX3_of_65 : decode cX3_of 65 = .ok (.aload_n 0, 1) := by decide +kernel
theorem dX3_of_66 : decode cX3_of 66 = .ok (.getfield 7, 3) := by decide +kernel
theorem dX3_of_69 : decode cX3_of 69 = .ok (.bipush 21, 2) := by decide +kernel
theorem dX3_of_71 : decode cX3_of 71 = .ok (.iaload, 1) := by decide +kernel
theorem dX3_of_72 : decode cX3_of 72 = .ok (.iload_n 1, 1) := by decide +kernel
theorem dX3_of_73 : decode cX3_of 73 = .ok (.ishr, 1) := by decide +kernel
theorem dX3_of_74 : decode cX3_of 74 = .ok (.iconst 1, 1) := by decide +kernel
theorem dX3_of_75 : decode cX3_of 75 = .ok (.iand, 1) := by decide +kernel
theorem dX3_of_76 : decode cX3_of 76 = .ok (.ireturn, 1) := by decide +kernel
theorem dX3_of_77 : decode cX3_of 77 = .ok (.aload_n 0, 1) := by decide +kernel
theorem dX3_of_78 : decode cX3_of 78 = .ok (.getfield 7, 3) := by decide +kernel
theorem dX3_of_81 : decode cX3_of 81 = .ok (.iconst 0, 1) := by decide +kernel
theorem dX3_of_82 : decode cX3_of 82 = .ok (.iload_n 1, 1) := by decide +kernel
theorem dX3_of_83 : decode cX3_of 83 = .ok (.iadd, 1) := by decide +kernel
theorem dX3_of_84 : decode cX3_of 84 = .ok (.iaload, 1) := by decide +kernel
theorem dX3_of_85 : decode cX3_of 85 = .ok (.aload_n 0, 1) := by decide +kernel
theorem dX3_of_86 : decode cX3_of 86 = .ok (.getfield 7, 3) := by decide +kernel
theorem dX3_of_89 : decode cX3_of 89 = .ok (.bipush 10, 2) := by decide +kernel
theorem dX3_of_91 : decode cX3_of 91 = .ok (.iload_n 1, 1) := by decide +kernel
theorem dX3_of_92 : decode cX3_of 92 = .ok (.iadd, 1) := by decide +kernel
theorem dX3_of_93 : decode cX3_of 93 = .ok (.iaload, 1) := by decide +kernel
theorem dX3_of_94 : decode cX3_of 94 = .ok (.invokestatic 40, 3) := by decide +kernel
theorem dX3_of_97 : decode cX3_of 97 = .ok (.ireturn, 1) := by decide +kernel
theorem dX3_of_98 : decode cX3_of 98 = .ok (.bipush (-2), 2) := by decide +kernel
theorem dX3_of_100 : decode cX3_of 100 = .ok (.ireturn, 1) := by decide +kernel
set_option maxRecDepth 20000 in
theorem ggX3_sumOne_X3_power : GoodIn wsX3_sumOne wsX3_power := goodIn_r _ [13] (by decide +kernel) (by decide +kernel)
set_option maxRecDepth 20000 in
theorem gX3_sumOne_X3_power : GoodIn wsX3_sumOne (va_wsS RX3 40 yX3_power wsX3_power) := goodIn_app (goodIn_of _ (by decide +kernel)) ggX3_sumOne_X3_power
theorem dX3_sumOne_0 : decode cX3_sumOne 0 = .ok (.iload_n 1, 1) := by decide +kernel
theorem dX3_sumOne_1 : decode cX3_sumOne 1 = .ok (.iload_n 2, 1) := by decide +kernel
theorem dX3_sumOne_2 : decode cX3_sumOne 2 = .ok (.invokestatic 40, 3) := by decide +kernel
theorem dX3_sumOne_5 : decode cX3_sumOne 5 = .ok (.istore_n 3, 1) := by decide +kernel
theorem dX3_sumOne_6 : decode cX3_sumOne 6 = .ok (.aload_n 0, 1) := by decide +kernel
theorem dX3_sumOne_7 : decode cX3_sumOne 7 = .ok (.dup, 1) := by decide +kernel
theorem dX3_sumOne_8 : decode cX3_sumOne 8 = .ok (.getfield 44, 3) := by decide +kernel
theorem dX3_sumOne_11 : decode cX3_sumOne 11 = .ok (.lconst 1, 1) := by decide +kernel
theorem dX3_sumOne_12 : decode cX3_sumOne 12 = .ok (.ladd, 1) := by decide +kernel
theorem dX3_sumOne_13 : decode cX3_sumOne 13 = .ok (.putfield 44, 3) := by decide +kernel
theorem dX3_sumOne_16 : decode cX3_sumOne 16 = .ok (.aload_n 0, 1) := by decide +kernel
theorem dX3_sumOne_17 : decode cX3_sumOne 17 = .ok (.dup, 1) := by decide +kernel
theorem dX3_sumOne_18 : decode cX3_sumOne 18 = .ok (.getfield 48, 3) := by decide +kernel
theorem dX3_sumOne_21 : decode cX3_sumOne 21 = .ok (.iload_n 1, 1) := by decide +kernel
theorem dX3_sumOne_22 : decode cX3_sumOne 22 = .ok (.i2l, 1) := by decide +kernel
theorem dX3_sumOne_23 : decode cX3_sumOne 23 = .ok (.ladd, 1) := by decide +kernel
theorem dX3_sumOne_24 : decode cX3_sumOne 24 = .ok (.putfield 48, 3) := by decide +kernel
theorem dX3_sumOne_27 : decode cX3_sumOne 27 = .ok (.aload_n 0, 1) := by decide +kernel
theorem dX3_sumOne_28 : decode cX3_sumOne 28 = .ok (.dup, 1) := by decide +kernel
theorem dX3_sumOne_29 : decode cX3_sumOne 29 = .ok (.getfield 51, 3) := by decide +kernel
theorem dX3_sumOne_32 : decode cX3_sumOne 32 = .ok (.iload_n 2, 1) := by decide +kernel
theorem dX3_sumOne_33 : decode cX3_sumOne 33 = .ok (.i2l, 1) := by decide +kernel
theorem dX3_sumOne_34 : decode cX3_sumOne 34 = .ok (.ladd, 1) := by decide +kernel
theorem dX3_sumOne_35 : decode cX3_sumOne 35 = .ok (.putfield 51, 3) := by decide +kernel
theorem dX3_sumOne_38 : decode cX3_sumOne 38 = .ok (.aload_n 0, 1) := by decide +kernel
theorem dX3_sumOne_39 : decode cX3_sumOne 39 = .ok (.dup, 1) := by decide +kernel
theorem dX3_sumOne_40 : decode cX3_sumOne 40 = .ok (.getfield 54, 3) := by decide +kernel
theorem dX3_sumOne_43 : decode cX3_sumOne 43 = .ok (.iload_n 1, 1) := by decide +kernel
theorem dX3_sumOne_44 : decode cX3_sumOne 44 = .ok (.iload_n 1, 1) := by decide +kernel
theorem dX3_sumOne_45 : decode cX3_sumOne 45 = .ok (.imul, 1) := by decide +kernel
theorem dX3_sumOne_46 : decode cX3_sumOne 46 = .ok (.i2l, 1) := by decide +kernel
theorem dX3_sumOne_47 : decode cX3_sumOne 47 = .ok (.ladd, 1) := by decide +kernel
theorem dX3_sumOne_48 : decode cX3_sumOne 48 = .ok (.putfield 54, 3) := by decide +kernel
theorem dX3_sumOne_51 : decode cX3_sumOne 51 = .ok (.aload_n 0, 1) := by decide +kernel
theorem dX3_sumOne_52 : decode cX3_sumOne 52 = .ok (.dup, 1) := by decide +kernel
theorem dX3_sumOne_53 : decode cX3_sumOne 53 = .ok (.getfield 57, 3) := by decide +kernel
theorem dX3_sumOne_56 : decode cX3_sumOne 56 = .ok (.iload_n 1, 1) := by decide +kernel
theorem dX3_sumOne_57 : decode cX3_sumOne 57 = .ok (.iload_n 2, 1) := by decide +kernel
theorem dX3_sumOne_58 : decode cX3_sumOne 58 = .ok (.imul, 1) := by decide +kernel
theorem dX3_sumOne_59 : decode cX3_sumOne 59 = .ok (.i2l, 1) := by decide +kernel
theorem dX3_sumOne_60 : decode cX3_sumOne 60 = .ok (.ladd, 1) := by decide +kernel
theorem dX3_sumOne_61 : decode cX3_sumOne 61 = .ok (.putfield 57, 3) := by decide +kernel
theorem dX3_sumOne_64 : decode cX3_sumOne 64 = .ok (.aload_n 0, 1) := by decide +kernel
theorem dX3_sumOne_65 : decode cX3_sumOne 65 = .ok (.dup, 1) := by decide +kernel
theorem dX3_sumOne_66 : decode cX3_sumOne 66 = .ok (.getfield 60, 3) := by decide +kernel
theorem dX3_sumOne_69 : decode cX3_sumOne 69 = .ok (.iload_n 2, 1) := by decide +kernel
theorem dX3_sumOne_70 : decode cX3_sumOne 70 = .ok (.iload_n 2, 1) := by decide +kernel
theorem dX3_sumOne_71 : decode cX3_sumOne 71 = .ok (.imul, 1) := by decide +kernel
theorem dX3_sumOne_72 : decode cX3_sumOne 72 = .ok (.i2l, 1) := by decide +kernel
theorem dX3_sumOne_73 : decode cX3_sumOne 73 = .ok (.ladd, 1) := by decide +kernel
theorem dX3_sumOne_74 : decode cX3_sumOne 74 = .ok (.putfield 60, 3) := by decide +kernel
theorem dX3_sumOne_77 : decode cX3_sumOne 77 = .ok (.aload_n 0, 1) := by decide +kernel
theorem dX3_sumOne_78 : decode cX3_sumOne 78 = .ok (.dup, 1) := by decide +kernel
theorem dX3_sumOne_79 : decode cX3_sumOne 79 = .ok (.getfield 63, 3) := by decide +kernel
theorem dX3_sumOne_82 : decode cX3_sumOne 82 = .ok (.iload_n 3, 1) := by decide +kernel
theorem dX3_sumOne_83 : decode cX3_sumOne 83 = .ok (.i2l, 1) := by decide +kernel
theorem dX3_sumOne_84 : decode cX3_sumOne 84 = .ok (.ladd, 1) := by decide +kernel
theorem dX3_sumOne_85 : decode cX3_sumOne 85 = .ok (.putfield 63, 3) := by decide +kernel
theorem dX3_sumOne_88 : decode cX3_sumOne 88 = .ok (.aload_n 0, 1) := by decide +kernel
theorem dX3_sumOne_89 : decode cX3_sumOne 89 = .ok (.dup, 1) := by decide +kernel
theorem dX3_sumOne_90 : decode cX3_sumOne 90 = .ok (.getfield 66, 3) := by decide +kernel
theorem dX3_sumOne_93 : decode cX3_sumOne 93 = .ok (.iload_n 3, 1) := by decide +kernel
theorem dX3_sumOne_94 : decode cX3_sumOne 94 = .ok (.iload_n 1, 1) := by decide +kernel
theorem dX3_sumOne_95 : decode cX3_sumOne 95 = .ok (.imul, 1) := by decide +kernel
theorem dX3_sumOne_96 : decode cX3_sumOne 96 = .ok (.i2l, 1) := by decide +kernel
theorem dX3_sumOne_97 : decode cX3_sumOne 97 = .ok (.ladd, 1) := by decide +kernel
theorem dX3_sumOne_98 : decode cX3_sumOne 98 = .ok (.putfield 66, 3) := by decide +kernel
theorem dX3_sumOne_101 : decode cX3_sumOne 101 = .ok (.aload_n 0, 1) := by decide +kernel
theorem dX3_sumOne_102 : decode cX3_sumOne 102 = .ok (.dup, 1) := by decide +kernel
theorem dX3_sumOne_103 : decode cX3_sumOne 103 = .ok (.getfield 69, 3) := by decide +kernel
theorem dX3_sumOne_106 : decode cX3_sumOne 106 = .ok (.iload_n 3, 1) := by decide +kernel
theorem dX3_sumOne_107 : decode cX3_sumOne 107 = .ok (.iload_n 2, 1) := by decide +kernel
theorem dX3_sumOne_108 : decode cX3_sumOne 108 = .ok (.imul, 1) := by decide +kernel
theorem dX3_sumOne_109 : decode cX3_sumOne 109 = .ok (.i2l, 1) := by decide +kernel
theorem dX3_sumOne_110 : decode cX3_sumOne 110 = .ok (.ladd, 1) := by decide +kernel
theorem dX3_sumOne_111 : decode cX3_sumOne 111 = .ok (.putfield 69, 3) := by decide +kernel
theorem dX3_sumOne_114 : decode cX3_sumOne 114 = .ok (.return_, 1) := by decide +kernel
set_option maxRecDepth 20000 in
theorem ggX3_sumSet_X3_sumOne : GoodIn wsX3_sumSet wsX3_sumOne := goodIn_r _ [15, 1, 2, 3, 4, 5, 6, 7, 8, 9, 16, 17, 14, 18, 19, 20, 21, 22, 23, 24, 25, 26, 27, 28, 29, 30, 31, 32, 33, 34] (by decide +kernel) (by decide +kernel)
set_option maxRecDepth 20000 in
theorem gX3_sumSet_X3_sumOne : GoodIn wsX3_sumSet (wsV RX3 72 RX3 yX3_sumOne wsX3_sumOne) := goodIn_app (goodIn_of _ (by decide +kernel)) ggX3_sumSet_X3_sumOne
theorem dX3_sumSet_0 : decode cX3_sumSet 0 = .ok (.aload_n 0, 1) := by decide +kernel
theorem dX3_sumSet_1 : decode cX3_sumSet 1 = .ok (.lconst 0, 1) := by decide +kernel
theorem dX3_sumSet_2 : decode cX3_sumSet 2 = .ok (.putfield 44, 3) := by decide +kernel
theorem dX3_sumSet_5 : decode cX3_sumSet 5 = .ok (.aload_n 0, 1) := by decide +kernel
theorem dX3_sumSet_6 : decode cX3_sumSet 6 = .ok (.lconst 0, 1) := by decide +kernel
theorem dX3_sumSet_7 : decode cX3_sumSet 7 = .ok (.putfield 48, 3) := by decide +kernel
theorem dX3_sumSet_10 : decode cX3_sumSet 10 = .ok (.aload_n 0, 1) := by decide +kernel
theorem dX3_sumSet_11 : decode cX3_sumSet 11 = .ok (.lconst 0, 1) := by decide +kernel
theorem dX3_sumSet_12 : decode cX3_sumSet 12 = .ok (.putfield 51, 3) := by decide +kernel
theorem dX3_sumSet_15 : decode cX3_sumSet 15 = .ok (.aload_n 0, 1) := by decide +kernel
theorem dX3_sumSet_16 : decode cX3_sumSet 16 = .ok (.lconst 0, 1) := by decide +kernel
theorem dX3_sumSet_17 : decode cX3_sumSet 17 = .ok (.putfield 54, 3) := by decide +kernel
theorem dX3_sumSet_20 : decode cX3_sumSet 20 = .ok (.aload_n 0, 1) := by decide +kernel
theorem dX3_sumSet_21 : decode cX3_sumSet 21 = .ok (.lconst 0, 1) := by decide +kernel
theorem dX3_sumSet_22 : decode cX3_sumSet 22 = .ok (.putfield 57, 3) := by decide +kernel
theorem dX3_sumSet_25 : decode cX3_sumSet 25 = .ok (.aload_n 0, 1) := by decide +kernel
theorem dX3_sumSet_26 : decode cX3_sumSet 26 = .ok (.lconst 0, 1) := by decide +kernel
theorem dX3_sumSet_27 : decode cX3_sumSet 27 = .ok (.putfield 60, 3) := by decide +kernel
theorem dX3_sumSet_30 : decode cX3_sumSet 30 = .ok (.aload_n 0, 1) := by decide +kernel
theorem dX3_sumSet_31 : decode cX3_sumSet 31 = .ok (.lconst 0, 1) := by decide +kernel
theorem dX3_sumSet_32 : decode cX3_sumSet 32 = .ok (.putfield 63, 3) := by decide +kernel
theorem dX3_sumSet_35 : decode cX3_sumSet 35 = .ok (.aload_n 0, 1) := by decide +kernel
theorem dX3_sumSet_36 : decode cX3_sumSet 36 = .ok (.lconst 0, 1) := by decide +kernel
theorem dX3_sumSet_37 : decode cX3_sumSet 37 = .ok (.putfield 66, 3) := by decide +kernel
theorem dX3_sumSet_40 : decode cX3_sumSet 40 = .ok (.aload_n 0, 1) := by decide +kernel
theorem dX3_sumSet_41 : decode cX3_sumSet 41 = .ok (.lconst 0, 1) := by decide +kernel
theorem dX3_sumSet_42 : decode cX3_sumSet 42 = .ok (.putfield 69, 3) := by decide +kernel
theorem dX3_sumSet_45 : decode cX3_sumSet 45 = .ok (.iconst 0, 1) := by decide +kernel
theorem dX3_sumSet_46 : decode cX3_sumSet 46 = .ok (.istore_n 2, 1) := by decide +kernel
theorem dX3_sumSet_47 : decode cX3_sumSet 47 = .ok (.iload_n 2, 1) := by decide +kernel
theorem dX3_sumSet_48 : decode cX3_sumSet 48 = .ok (.aload_n 0, 1) := by decide +kernel
theorem dX3_sumSet_49 : decode cX3_sumSet 49 = .ok (.getfield 7, 3) := by decide +kernel
theorem dX3_sumSet_52 : decode cX3_sumSet 52 = .ok (.bipush 20, 2) := by decide +kernel
theorem dX3_sumSet_54 : decode cX3_sumSet 54 = .ok (.iaload, 1) := by decide +kernel
theorem dX3_sumSet_55 : decode cX3_sumSet 55 = .ok (.if_icmp .ge 39, 3) := by decide +kernel
theorem dX3_sumSet_58 : decode cX3_sumSet 58 = .ok (.iload_n 1, 1) := by decide +kernel
theorem dX3_sumSet_59 : decode cX3_sumSet 59 = .ok (.iload_n 2, 1) := by decide +kernel
theorem dX3_sumSet_60 : decode cX3_sumSet 60 = .ok (.ishr, 1) := by decide +kernel
theorem dX3_sumSet_61 : decode cX3_sumSet 61 = .ok (.iconst 1, 1) := by decide +kernel
theorem dX3_sumSet_62 : decode cX3_sumSet 62 = .ok (.iand, 1) := by decide +kernel
theorem dX3_sumSet_63 : decode cX3_sumSet 63 = .ok (.iconst 1, 1) := by decide +kernel
theorem dX3_sumSet_64 : decode cX3_sumSet 64 = .ok (.if_icmp .ne 24, 3) := by decide +kernel
theorem dX3_sumSet_67 : decode cX3_sumSet 67 = .ok (.aload_n 0, 1) := by decide +kernel
theorem dX3_sumSet_68 : decode cX3_sumSet 68 = .ok (.aload_n 0, 1) := by decide +kernel
theorem dX3_sumSet_69 : decode cX3_sumSet 69 = .ok (.getfield 7, 3) := by decide +kernel
theorem dX3_sumSet_72 : decode cX3_sumSet 72 = .ok (.iconst 0, 1) := by decide +kernel
theorem dX3_sumSet_73 : decode cX3_sumSet 73 = .ok (.iload_n 2, 1) := by decide +kernel
theorem dX3_sumSet_74 : decode cX3_sumSet 74 = .ok (.iadd, 1) := by decide +kernel
theorem dX3_sumSet_75 : decode cX3_sumSet 75 = .ok (.iaload, 1) := by decide +kernel
theorem dX3_sumSet_76 : decode cX3_sumSet 76 = .ok (.aload_n 0, 1) := by decide +kernel
theorem dX3_sumSet_77 : decode cX3_sumSet 77 = .ok (.getfield 7, 3) := by decide +kernel
theorem dX3_sumSet_80 : decode cX3_sumSet 80 = .ok (.bipush 10, 2) := by decide +kernel
theorem dX3_sumSet_82 : decode cX3_sumSet 82 = .ok (.iload_n 2, 1) := by decide +kernel
theorem dX3_sumSet_83 : decode cX3_sumSet 83 = .ok (.iadd, 1) := by decide +kernel
theorem dX3_sumSet_84 : decode cX3_sumSet 84 = .ok (.iaload, 1) := by decide +kernel
theorem dX3_sumSet_85 : decode cX3_sumSet 85 = .ok (.invokevirtual 72, 3) := by decide +kernel
theorem dX3_sumSet_88 : decode cX3_sumSet 88 = .ok (.iinc 2 1, 3) := by decide +kernel
theorem dX3_sumSet_91 : decode cX3_sumSet 91 = .ok (.goto (-44), 3) := by decide +kernel
theorem dX3_sumSet_94 : decode cX3_sumSet 94 = .ok (.return_, 1) := by decide +kernel
theorem dX3_det_0 : decode cX3_det 0 = .ok (.lload_n 0, 1) := by decide +kernel
theorem dX3_det_1 : decode cX3_det 1 = .ok (.lload 8, 2) := by decide +kernel
theorem dX3_det_3 : decode cX3_det 3 = .ok (.lload 16, 2) := by decide +kernel
theorem dX3_det_5 : decode cX3_det 5 = .ok (.lmul, 1) := by decide +kernel
theorem dX3_det_6 : decode cX3_det 6 = .ok (.lload 10, 2) := by decide +kernel
theorem dX3_det_8 : decode cX3_det 8 = .ok (.lload 14, 2) := by decide +kernel
theorem dX3_det_10 : decode cX3_det 10 = .ok (.lmul, 1) := by decide +kernel
theorem dX3_det_11 : decode cX3_det 11 = .ok (.lsub, 1) := by decide +kernel
theorem dX3_det_12 : decode cX3_det 12 = .ok (.lmul, 1) := by decide +kernel
theorem dX3_det_13 : decode cX3_det 13 = .ok (.lload_n 2, 1) := by decide +kernel
theorem dX3_det_14 : decode cX3_det 14 = .ok (.lload 6, 2) := by decide +kernel
theorem dX3_det_16 : decode cX3_det 16 = .ok (.lload 16, 2) := by decide +kernel
theorem dX3_det_18 : decode cX3_det 18 = .ok (.lmul, 1) := by decide +kernel
theorem dX3_det_19 : decode cX3_det 19 = .ok (.lload 10, 2) := by decide +kernel
theorem dX3_det_21 : decode cX3_det 21 = .ok (.lload 12, 2) := by decide +kernel
theorem dX3_det_23 : decode cX3_det 23 = .ok (.lmul, 1) := by decide +kernel
theorem dX3_det_24 : decode cX3_det 24 = .ok (.lsub, 1) := by decide +kernel
theorem dX3_det_25 : decode cX3_det 25 = .ok (.lmul, 1) := by decide +kernel
theorem dX3_det_26 : decode cX3_det 26 = .ok (.lsub, 1) := by decide +kernel
theorem dX3_det_27 : decode cX3_det 27 = .ok (.lload 4, 2) := by decide +kernel
theorem dX3_det_29 : decode cX3_det 29 = .ok (.lload 6, 2) := by decide +kernel
theorem dX3_det_31 : decode cX3_det 31 = .ok (.lload 14, 2) := by decide +kernel
theorem dX3_det_33 : decode cX3_det 33 = .ok (.lmul, 1) := by decide +kernel
theorem dX3_det_34 : decode cX3_det 34 = .ok (.lload 8, 2) := by decide +kernel
theorem dX3_det_36 : decode cX3_det 36 = .ok (.lload 12, 2) := by decide +kernel
theorem dX3_det_38 : decode cX3_det 38 = .ok (.lmul, 1) := by decide +kernel
theorem dX3_det_39 : decode cX3_det 39 = .ok (.lsub, 1) := by decide +kernel
theorem dX3_det_40 : decode cX3_det 40 = .ok (.lmul, 1) := by decide +kernel
theorem dX3_det_41 : decode cX3_det 41 = .ok (.ladd, 1) := by decide +kernel
theorem dX3_det_42 : decode cX3_det 42 = .ok (.lreturn, 1) := by decide +kernel
set_option maxRecDepth 20000 in
theorem ggX3_layRound_X3_det : GoodIn wsX3_layRound wsX3_det := goodIn_r _ [17] (by decide +kernel) (by decide +kernel)
set_option maxRecDepth 20000 in
theorem gX3_layRound_X3_det : GoodIn wsX3_layRound (va_wsS RX3 76 yX3_det wsX3_det) := goodIn_app (goodIn_of _ (by decide +kernel)) ggX3_layRound_X3_det
theorem dX3_layRound_0 : decode cX3_layRound 0 = .ok (.aload_n 0, 1) := by decide +kernel
theorem dX3_layRound_1 : decode cX3_layRound 1 = .ok (.aload_n 0, 1) := by decide +kernel
theorem dX3_layRound_2 : decode cX3_layRound 2 = .ok (.getfield 54, 3) := by decide +kernel
theorem dX3_layRound_5 : decode cX3_layRound 5 = .ok (.aload_n 0, 1) := by decide +kernel
theorem dX3_layRound_6 : decode cX3_layRound 6 = .ok (.getfield 57, 3) := by decide +kernel
theorem dX3_layRound_9 : decode cX3_layRound 9 = .ok (.aload_n 0, 1) := by decide +kernel
theorem dX3_layRound_10 : decode cX3_layRound 10 = .ok (.getfield 48, 3) := by decide +kernel
theorem dX3_layRound_13 : decode cX3_layRound 13 = .ok (.aload_n 0, 1) := by decide +kernel
theorem dX3_layRound_14 : decode cX3_layRound 14 = .ok (.getfield 57, 3) := by decide +kernel
theorem dX3_layRound_17 : decode cX3_layRound 17 = .ok (.aload_n 0, 1) := by decide +kernel
theorem dX3_layRound_18 : decode cX3_layRound 18 = .ok (.getfield 60, 3) := by decide +kernel
theorem dX3_layRound_21 : decode cX3_layRound 21 = .ok (.aload_n 0, 1) := by decide +kernel
theorem dX3_layRound_22 : decode cX3_layRound 22 = .ok (.getfield 51, 3) := by decide +kernel
theorem dX3_layRound_25 : decode cX3_layRound 25 = .ok (.aload_n 0, 1) := by decide +kernel
theorem dX3_layRound_26 : decode cX3_layRound 26 = .ok (.getfield 48, 3) := by decide +kernel
theorem dX3_layRound_29 : decode cX3_layRound 29 = .ok (.aload_n 0, 1) := by decide +kernel
theorem dX3_layRound_30 : decode cX3_layRound 30 = .ok (.getfield 51, 3) := by decide +kernel
theorem dX3_layRound_33 : decode cX3_layRound 33 = .ok (.aload_n 0, 1) := by decide +kernel
theorem dX3_layRound_34 : decode cX3_layRound 34 = .ok (.getfield 44, 3) := by decide +kernel
theorem dX3_layRound_37 : decode cX3_layRound 37 = .ok (.invokestatic 76, 3) := by decide +kernel
theorem dX3_layRound_40 : decode cX3_layRound 40 = .ok (.putfield 80, 3) := by decide +kernel
theorem dX3_layRound_43 : decode cX3_layRound 43 = .ok (.aload_n 0, 1) := by decide +kernel
theorem dX3_layRound_44 : decode cX3_layRound 44 = .ok (.aload_n 0, 1) := by decide +kernel
theorem dX3_layRound_45 : decode cX3_layRound 45 = .ok (.getfield 66, 3) := by decide +kernel
theorem dX3_layRound_48 : decode cX3_layRound 48 = .ok (.aload_n 0, 1) := by decide +kernel
theorem dX3_layRound_49 : decode cX3_layRound 49 = .ok (.getfield 57, 3) := by decide +kernel
theorem dX3_layRound_52 : decode cX3_layRound 52 = .ok (.aload_n 0, 1) := by decide +kernel
theorem dX3_layRound_53 : decode cX3_layRound 53 = .ok (.getfield 48, 3) := by decide +kernel
theorem dX3_layRound_56 : decode cX3_layRound 56 = .ok (.aload_n 0, 1) := by decide +kernel
theorem dX3_layRound_57 : decode cX3_layRound 57 = .ok (.getfield 69, 3) := by decide +kernel
theorem dX3_layRound_60 : decode cX3_layRound 60 = .ok (.aload_n 0, 1) := by decide +kernel
theorem dX3_layRound_61 : decode cX3_layRound 61 = .ok (.getfield 60, 3) := by decide +kernel
theorem dX3_layRound_64 : decode cX3_layRound 64 = .ok (.aload_n 0, 1) := by decide +kernel
theorem dX3_layRound_65 : decode cX3_layRound 65 = .ok (.getfield 51, 3) := by decide +kernel
theorem dX3_layRound_68 : decode cX3_layRound 68 = .ok (.aload_n 0, 1) := by decide +kernel
theorem dX3_layRound_69 : decode cX3_layRound 69 = .ok (.getfield 63, 3) := by decide +kernel
theorem dX3_layRound_72 : decode cX3_layRound 72 = .ok (.aload_n 0, 1) := by decide +kernel
theorem dX3_layRound_73 : decode cX3_layRound 73 = .ok (.getfield 51, 3) := by decide +kernel
theorem dX3_layRound_76 : decode cX3_layRound 76 = .ok (.aload_n 0, 1) := by decide +kernel
theorem dX3_layRound_77 : decode cX3_layRound 77 = .ok (.getfield 44, 3) := by decide +kernel
theorem dX3_layRound_80 : decode cX3_layRound 80 = .ok (.invokestatic 76, 3) := by decide +kernel
theorem dX3_layRound_83 : decode cX3_layRound 83 = .ok (.putfield 83, 3) := by decide +kernel
theorem dX3_layRound_86 : decode cX3_layRound 86 = .ok (.aload_n 0, 1) := by decide +kernel
theorem dX3_layRound_87 : decode cX3_layRound 87 = .ok (.aload_n 0, 1) := by decide +kernel
theorem dX3_layRound_88 : decode cX3_layRound 88 = .ok (.getfield 54, 3) := by decide +kernel
theorem dX3_layRound_91 : decode cX3_layRound 91 = .ok (.aload_n 0, 1) := by decide +kernel
theorem dX3_layRound_92 : decode cX3_layRound 92 = .ok (.getfield 66, 3) := by decide +kernel
theorem dX3_layRound_95 : decode cX3_layRound 95 = .ok (.aload_n 0, 1) := by decide +kernel
theorem dX3_layRound_96 : decode cX3_layRound 96 = .ok (.getfield 48, 3) := by decide +kernel
theorem dX3_layRound_99 : decode cX3_layRound 99 = .ok (.aload_n 0, 1) := by decide +kernel
theorem dX3_layRound_100 : decode cX3_layRound 100 = .ok (.getfield 57, 3) := by decide +kernel
theorem dX3_layRound_103 : decode cX3_layRound 103 = .ok (.aload_n 0, 1) := by decide +kernel
theorem dX3_layRound_104 : decode cX3_layRound 104 = .ok (.getfield 69, 3) := by decide +kernel
theorem dX3_layRound_107 : decode cX3_layRound 107 = .ok (.aload_n 0, 1) := by decide +kernel
theorem dX3_layRound_108 : decode cX3_layRound 108 = .ok (.getfield 51, 3) := by decide +kernel
theorem dX3_layRound_111 : decode cX3_layRound 111 = .ok (.aload_n 0, 1) := by decide +kernel
theorem dX3_layRound_112 : decode cX3_layRound 112 = .ok (.getfield 48, 3) := by decide +kernel
theorem dX3_layRound_115 : decode cX3_layRound 115 = .ok (.aload_n 0, 1) := by decide +kernel
theorem dX3_layRound_116 : decode cX3_layRound 116 = .ok (.getfield 63, 3) := by decide +kernel
theorem dX3_layRound_119 : decode cX3_layRound 119 = .ok (.aload_n 0, 1) := by decide +kernel
theorem dX3_layRound_120 : decode cX3_layRound 120 = .ok (.getfield 44, 3) := by decide +kernel
theorem dX3_layRound_123 : decode cX3_layRound 123 = .ok (.invokestatic 76, 3) := by decide +kernel
theorem dX3_layRound_126 : decode cX3_layRound 126 = .ok (.putfield 86, 3) := by decide +kernel
theorem dX3_layRound_129 : decode cX3_layRound 129 = .ok (.aload_n 0, 1) := by decide +kernel
theorem dX3_layRound_130 : decode cX3_layRound 130 = .ok (.aload_n 0, 1) := by decide +kernel
theorem dX3_layRound_131 : decode cX3_layRound 131 = .ok (.getfield 54, 3) := by decide +kernel
theorem dX3_layRound_134 : decode cX3_layRound 134 = .ok (.aload_n 0, 1) := by decide +kernel
theorem dX3_layRound_135 : decode cX3_layRound 135 = .ok (.getfield 57, 3) := by decide +kernel
theorem dX3_layRound_138 : decode cX3_layRound 138 = .ok (.aload_n 0, 1) := by decide +kernel
theorem dX3_layRound_139 : decode cX3_layRound 139 = .ok (.getfield 66, 3) := by decide +kernel
theorem dX3_layRound_142 : decode cX3_layRound 142 = .ok (.aload_n 0, 1) := by decide +kernel
theorem dX3_layRound_143 : decode cX3_layRound 143 = .ok (.getfield 57, 3) := by decide +kernel
theorem dX3_layRound_146 : decode cX3_layRound 146 = .ok (.aload_n 0, 1) := by decide +kernel
theorem dX3_layRound_147 : decode cX3_layRound 147 = .ok (.getfield 60, 3) := by decide +kernel
theorem dX3_layRound_150 : decode cX3_layRound 150 = .ok (.aload_n 0, 1) := by decide +kernel
theorem dX3_layRound_151 : decode cX3_layRound 151 = .ok (.getfield 69, 3) := by decide +kernel
theorem dX3_layRound_154 : decode cX3_layRound 154 = .ok (.aload_n 0, 1) := by decide +kernel
theorem dX3_layRound_155 : decode cX3_layRound 155 = .ok (.getfield 48, 3) := by decide +kernel
theorem dX3_layRound_158 : decode cX3_layRound 158 = .ok (.aload_n 0, 1) := by decide +kernel
theorem dX3_layRound_159 : decode cX3_layRound 159 = .ok (.getfield 51, 3) := by decide +kernel
theorem dX3_layRound_162 : decode cX3_layRound 162 = .ok (.aload_n 0, 1) := by decide +kernel
theorem dX3_layRound_163 : decode cX3_layRound 163 = .ok (.getfield 63, 3) := by decide +kernel
theorem dX3_layRound_166 : decode cX3_layRound 166 = .ok (.invokestatic 76, 3) := by decide +kernel
theorem dX3_layRound_169 : decode cX3_layRound 169 = .ok (.putfield 89, 3) := by decide +kernel
theorem dX3_layRound_172 : decode cX3_layRound 172 = .ok (.return_, 1) := by decide +kernel
set_option maxRecDepth 20000 in
theorem ggX3_lay_X3_sumSet : GoodIn wsX3_lay wsX3_sumSet := goodIn_r _ [6, 7, 8, 9, 10, 11, 12, 13, 14, 15, 16, 17, 18, 19, 5, 20, 21, 22, 23, 34, 35, 36, 37, 38, 39, 40, 41, 42, 43, 44, 45, 46, 47, 48, 49] (by decide +kernel) (by decide +kernel)
set_option maxRecDepth 20000 in
theorem gX3_lay_X3_sumSet : GoodIn wsX3_lay (wsV RX3 92 RX3 yX3_sumSet wsX3_sumSet) := goodIn_app (goodIn_of _ (by decide +kernel)) ggX3_lay_X3_sumSet
set_option maxRecDepth 20000 in
theorem ggX3_lay_X3_layRound : GoodIn wsX3_lay wsX3_layRound := goodIn_r _ [27, 10, 11, 8, 12, 9, 7, 1, 14, 15, 13, 28, 29, 30, 31, 32, 5, 33, 34, 35, 36, 37, 38, 39, 40, 41, 42, 43, 44, 45, 46, 47, 48, 49] (by decide +kernel) (by decide +kernel)
set_option maxRecDepth 20000 in
theorem gX3_lay_X3_layRound : GoodIn wsX3_lay (wsV RX3 96 RX3 yX3_layRound wsX3_layRound) := goodIn_app (goodIn_of _ (by decide +kernel)) ggX3_lay_X3_layRound
theorem dX3_lay_0 : decode cX3_lay 0 = .ok (.aload_n 0, 1) := by decide +kernel
theorem dX3_lay_1 : decode cX3_lay 1 = .ok (.iload_n 1, 1) := by decide +kernel
theorem dX3_lay_2 : decode cX3_lay 2 = .ok (.invokevirtual 92, 3) := by decide +kernel
theorem dX3_lay_5 : decode cX3_lay 5 = .ok (.aload_n 0, 1) := by decide +kernel
theorem dX3_lay_6 : decode cX3_lay 6 = .ok (.invokevirtual 96, 3) := by decide +kernel
theorem dX3_lay_9 : decode cX3_lay 9 = .ok (.aload_n 0, 1) := by decide +kernel
theorem dX3_lay_10 : decode cX3_lay 10 = .ok (.getfield 80, 3) := by decide +kernel
theorem dX3_lay_13 : decode cX3_lay 13 = .ok (.lconst 0, 1) := by decide +kernel
theorem dX3_lay_14 : decode cX3_lay 14 = .ok (.lcmp, 1) := by decide +kernel
theorem dX3_lay_15 : decode cX3_lay 15 = .ok (.ifCond .eq 7, 3) := by decide +kernel
theorem dX3_lay_18 : decode cX3_lay 18 = .ok (.iconst 1, 1) := by decide +kernel
theorem dX3_lay_19 : decode cX3_lay 19 = .ok (.goto 4, 3) := by decide +kernel
theorem dX3_lay_22 : decode cX3_lay 22 = .ok (.iconst 0, 1) := by decide +kernel
theorem dX3_lay_23 : decode cX3_lay 23 = .ok (.ireturn, 1) := by decide +kernel
set_option maxRecDepth 20000 in
theorem ggX3_layTaken_X3_lay : GoodIn wsX3_layTaken wsX3_lay := goodIn_r _ [6, 7, 8, 9, 10, 5, 11, 12, 13, 14, 15, 16, 17, 18, 19, 20, 1, 21, 22, 23, 24, 25, 26, 27, 28, 29, 30, 31, 32, 33, 34, 35, 36, 37, 38, 39, 40, 41, 42, 43, 44, 45, 46, 47, 48, 49, 50, 51, 52, 53] (by decide +kernel) (by decide +kernel)
set_option maxRecDepth 20000 in
theorem gX3_layTaken_X3_lay : GoodIn wsX3_layTaken (wsV RX3 99 RX3 yX3_lay wsX3_lay) := goodIn_app (goodIn_of _ (by decide +kernel)) ggX3_layTaken_X3_lay
theorem dX3_layTaken_0 : decode cX3_layTaken 0 = .ok (.aload_n 0, 1) := by decide +kernel
theorem dX3_layTaken_1 : decode cX3_layTaken 1 = .ok (.aload_n 0, 1) := by decide +kernel
theorem dX3_layTaken_2 : decode cX3_layTaken 2 = .ok (.getfield 7, 3) := by decide +kernel
theorem dX3_layTaken_5 : decode cX3_layTaken 5 = .ok (.bipush 21, 2) := by decide +kernel
theorem dX3_layTaken_7 : decode cX3_layTaken 7 = .ok (.iaload, 1) := by decide +kernel
theorem dX3_layTaken_8 : decode cX3_layTaken 8 = .ok (.invokevirtual 99, 3) := by decide +kernel
theorem dX3_layTaken_11 : decode cX3_layTaken 11 = .ok (.ireturn, 1) := by decide +kernel
set_option maxRecDepth 20000 in
theorem ggX3_offOf_X3_power : GoodIn wsX3_offOf wsX3_power := goodIn_r _ [9] (by decide +kernel) (by decide +kernel)
set_option maxRecDepth 20000 in
theorem gX3_offOf_X3_power : GoodIn wsX3_offOf (va_wsS RX3 40 yX3_power wsX3_power) := goodIn_app (goodIn_of _ (by decide +kernel)) ggX3_offOf_X3_power
theorem dX3_offOf_0 : decode cX3_offOf 0 = .ok (.aload_n 0, 1) := by decide +kernel
theorem dX3_offOf_1 : decode cX3_offOf 1 = .ok (.getfield 7, 3) := by decide +kernel
theorem dX3_offOf_4 : decode cX3_offOf 4 = .ok (.iconst 0, 1) := by decide +kernel
theorem dX3_offOf_5 : decode cX3_offOf 5 = .ok (.iload_n 1, 1) := by decide +kernel
theorem dX3_offOf_6 : decode cX3_offOf 6 = .ok (.iadd, 1) := by decide +kernel
theorem dX3_offOf_7 : decode cX3_offOf 7 = .ok (.iaload, 1) := by decide +kernel
theorem dX3_offOf_8 : decode cX3_offOf 8 = .ok (.istore_n 2, 1) := by decide +kernel
theorem dX3_offOf_9 : decode cX3_offOf 9 = .ok (.aload_n 0, 1) := by decide +kernel
theorem dX3_offOf_10 : decode cX3_offOf 10 = .ok (.getfield 7, 3) := by decide +kernel
theorem dX3_offOf_13 : decode cX3_offOf 13 = .ok (.bipush 10, 2) := by decide +kernel
theorem dX3_offOf_15 : decode cX3_offOf 15 = .ok (.iload_n 1, 1) := by decide +kernel
theorem dX3_offOf_16 : decode cX3_offOf 16 = .ok (.iadd, 1) := by decide +kernel
theorem dX3_offOf_17 : decode cX3_offOf 17 = .ok (.iaload, 1) := by decide +kernel
theorem dX3_offOf_18 : decode cX3_offOf 18 = .ok (.istore_n 3, 1) := by decide +kernel
theorem dX3_offOf_19 : decode cX3_offOf 19 = .ok (.iload_n 2, 1) := by decide +kernel
theorem dX3_offOf_20 : decode cX3_offOf 20 = .ok (.iload_n 3, 1) := by decide +kernel
theorem dX3_offOf_21 : decode cX3_offOf 21 = .ok (.invokestatic 40, 3) := by decide +kernel
theorem dX3_offOf_24 : decode cX3_offOf 24 = .ok (.i2l, 1) := by decide +kernel
theorem dX3_offOf_25 : decode cX3_offOf 25 = .ok (.aload_n 0, 1) := by decide +kernel
theorem dX3_offOf_26 : decode cX3_offOf 26 = .ok (.getfield 80, 3) := by decide +kernel
theorem dX3_offOf_29 : decode cX3_offOf 29 = .ok (.lmul, 1) := by decide +kernel
theorem dX3_offOf_30 : decode cX3_offOf 30 = .ok (.aload_n 0, 1) := by decide +kernel
theorem dX3_offOf_31 : decode cX3_offOf 31 = .ok (.getfield 83, 3) := by decide +kernel
theorem dX3_offOf_34 : decode cX3_offOf 34 = .ok (.iload_n 2, 1) := by decide +kernel
theorem dX3_offOf_35 : decode cX3_offOf 35 = .ok (.i2l, 1) := by decide +kernel
theorem dX3_offOf_36 : decode cX3_offOf 36 = .ok (.lmul, 1) := by decide +kernel
theorem dX3_offOf_37 : decode cX3_offOf 37 = .ok (.lsub, 1) := by decide +kernel
theorem dX3_offOf_38 : decode cX3_offOf 38 = .ok (.aload_n 0, 1) := by decide +kernel
theorem dX3_offOf_39 : decode cX3_offOf 39 = .ok (.getfield 86, 3) := by decide +kernel
theorem dX3_offOf_42 : decode cX3_offOf 42 = .ok (.iload_n 3, 1) := by decide +kernel
theorem dX3_offOf_43 : decode cX3_offOf 43 = .ok (.i2l, 1) := by decide +kernel
theorem dX3_offOf_44 : decode cX3_offOf 44 = .ok (.lmul, 1) := by decide +kernel
theorem dX3_offOf_45 : decode cX3_offOf 45 = .ok (.lsub, 1) := by decide +kernel
theorem dX3_offOf_46 : decode cX3_offOf 46 = .ok (.aload_n 0, 1) := by decide +kernel
theorem dX3_offOf_47 : decode cX3_offOf 47 = .ok (.getfield 89, 3) := by decide +kernel
theorem dX3_offOf_50 : decode cX3_offOf 50 = .ok (.lsub, 1) := by decide +kernel
theorem dX3_offOf_51 : decode cX3_offOf 51 = .ok (.lreturn, 1) := by decide +kernel
theorem dX3_plain_0 : decode cX3_plain 0 = .ok (.lload_n 0, 1) := by decide +kernel
theorem dX3_plain_1 : decode cX3_plain 1 = .ok (.lconst 0, 1) := by decide +kernel
theorem dX3_plain_2 : decode cX3_plain 2 = .ok (.lcmp, 1) := by decide +kernel
theorem dX3_plain_3 : decode cX3_plain 3 = .ok (.ifCond .ge 8, 3) := by decide +kernel
theorem dX3_plain_6 : decode cX3_plain 6 = .ok (.lload_n 0, 1) := by decide +kernel
theorem dX3_plain_7 : decode cX3_plain 7 = .ok (.lneg, 1) := by decide +kernel
theorem dX3_plain_8 : decode cX3_plain 8 = .ok (.goto 4, 3) := by decide +kernel
theorem dX3_plain_11 : decode cX3_plain 11 = .ok (.lload_n 0, 1) := by decide +kernel
theorem dX3_plain_12 : decode cX3_plain 12 = .ok (.lreturn, 1) := by decide +kernel
theorem dX3_common_0 : decode cX3_common 0 = .ok (.lload_n 0, 1) := by decide +kernel
theorem dX3_common_1 : decode cX3_common 1 = .ok (.lstore 4, 2) := by decide +kernel
theorem dX3_common_3 : decode cX3_common 3 = .ok (.lload_n 2, 1) := by decide +kernel
theorem dX3_common_4 : decode cX3_common 4 = .ok (.lstore 6, 2) := by decide +kernel
theorem dX3_common_6 : decode cX3_common 6 = .ok (.lload 6, 2) := by decide +kernel
theorem dX3_common_8 : decode cX3_common 8 = .ok (.lconst 0, 1) := by decide +kernel
theorem dX3_common_9 : decode cX3_common 9 = .ok (.lcmp, 1) := by decide +kernel
theorem dX3_common_10 : decode cX3_common 10 = .ok (.ifCond .eq 21, 3) := by decide +kernel
theorem dX3_common_13 : decode cX3_common 13 = .ok (.lload 4, 2) := by decide +kernel
theorem dX3_common_15 : decode cX3_common 15 = .ok (.lload 6, 2) := by decide +kernel
theorem dX3_common_17 : decode cX3_common 17 = .ok (.lrem, 1) := by decide +kernel
theorem dX3_common_18 : decode cX3_common 18 = .ok (.lstore 8, 2) := by decide +kernel
theorem dX3_common_20 : decode cX3_common 20 = .ok (.lload 6, 2) := by decide +kernel
theorem dX3_common_22 : decode cX3_common 22 = .ok (.lstore 4, 2) := by decide +kernel
theorem dX3_common_24 : decode cX3_common 24 = .ok (.lload 8, 2) := by decide +kernel
theorem dX3_common_26 : decode cX3_common 26 = .ok (.lstore 6, 2) := by decide +kernel
theorem dX3_common_28 : decode cX3_common 28 = .ok (.goto (-22), 3) := by decide +kernel
theorem dX3_common_31 : decode cX3_common 31 = .ok (.lload 4, 2) := by decide +kernel
theorem dX3_common_33 : decode cX3_common 33 = .ok (.lreturn, 1) := by decide +kernel
set_option maxRecDepth 20000 in
theorem ggX3_told_X3_plain : GoodIn wsX3_told wsX3_plain := goodIn_r _ [4] (by decide +kernel) (by decide +kernel)
set_option maxRecDepth 20000 in
theorem gX3_told_X3_plain : GoodIn wsX3_told (va_wsS RX3 102 yX3_plain wsX3_plain) := goodIn_app (goodIn_of _ (by decide +kernel)) ggX3_told_X3_plain
set_option maxRecDepth 20000 in
theorem ggX3_told_X3_common : GoodIn wsX3_told wsX3_common := goodIn_r _ [7] (by decide +kernel) (by decide +kernel)
set_option maxRecDepth 20000 in
theorem gX3_told_X3_common : GoodIn wsX3_told (va_wsS RX3 106 yX3_common wsX3_common) := goodIn_app (goodIn_of _ (by decide +kernel)) ggX3_told_X3_common
theorem dX3_told_0 : decode cX3_told 0 = .ok (.lload_n 2, 1) := by decide +kernel
theorem dX3_told_1 : decode cX3_told 1 = .ok (.lload_n 0, 1) := by decide +kernel
theorem dX3_told_2 : decode cX3_told 2 = .ok (.invokestatic 102, 3) := by decide +kernel
theorem dX3_told_5 : decode cX3_told 5 = .ok (.invokestatic 106, 3) := by decide +kernel
theorem dX3_told_8 : decode cX3_told 8 = .ok (.lstore 5, 2) := by decide +kernel
theorem dX3_told_10 : decode cX3_told 10 = .ok (.iload 4, 2) := by decide +kernel
theorem dX3_told_12 : decode cX3_told 12 = .ok (.ifCond .ne 10, 3) := by decide +kernel
theorem dX3_told_15 : decode cX3_told 15 = .ok (.lload_n 0, 1) := by decide +kernel
theorem dX3_told_16 : decode cX3_told 16 = .ok (.lload 5, 2) := by decide +kernel
theorem dX3_told_18 : decode cX3_told 18 = .ok (.ldiv, 1) := by decide +kernel
theorem dX3_told_19 : decode cX3_told 19 = .ok (.goto 7, 3) := by decide +kernel
theorem dX3_told_22 : decode cX3_told 22 = .ok (.lload_n 2, 1) := by decide +kernel
theorem dX3_told_23 : decode cX3_told 23 = .ok (.lload 5, 2) := by decide +kernel
theorem dX3_told_25 : decode cX3_told 25 = .ok (.ldiv, 1) := by decide +kernel
theorem dX3_told_26 : decode cX3_told 26 = .ok (.lreturn, 1) := by decide +kernel
set_option maxRecDepth 20000 in
theorem ggX3_round_X3_in : GoodIn wsX3_round wsX3_in := goodIn_r _ [11] (by decide +kernel) (by decide +kernel)
set_option maxRecDepth 20000 in
theorem gX3_round_X3_in : GoodIn wsX3_round (va_wsS RX3 20 yX3_in wsX3_in) := goodIn_app (goodIn_of _ (by decide +kernel)) ggX3_round_X3_in
set_option maxRecDepth 20000 in
theorem ggX3_round_X3_layTaken : GoodIn wsX3_round wsX3_layTaken := goodIn_r _ [15, 16, 17, 18, 19, 10, 20, 7, 21, 22, 23, 24, 25, 26, 27, 28, 29, 30, 31, 32, 33, 34, 35, 36, 37, 38, 39, 40, 41, 42, 43, 44, 4, 5, 6, 45, 46, 47, 57, 58, 59, 60, 61, 62, 63, 64, 65, 66, 67, 68, 69, 70, 71, 72] (by decide +kernel) (by decide +kernel)
set_option maxRecDepth 20000 in
theorem gX3_round_X3_layTaken : GoodIn wsX3_round (wsV RX3 114 RX3 yX3_layTaken wsX3_layTaken) := goodIn_app (goodIn_of _ (by decide +kernel)) ggX3_round_X3_layTaken
set_option maxRecDepth 20000 in
theorem ggX3_round_X3_told : GoodIn wsX3_round wsX3_told := goodIn_r _ [50, 51, 52, 10, 53, 54, 55, 56] (by decide +kernel) (by decide +kernel)
set_option maxRecDepth 20000 in
theorem gX3_round_X3_told : GoodIn wsX3_round (va_wsS RX3 120 yX3_told wsX3_told) := goodIn_app (goodIn_of _ (by decide +kernel)) ggX3_round_X3_told
theorem dX3_round_0 : decode cX3_round 0 = .ok (.iload_n 1, 1) := by decide +kernel
theorem dX3_round_1 : decode cX3_round 1 = .ok (.i2l, 1) := by decide +kernel
theorem dX3_round_2 : decode cX3_round 2 = .ok (.lconst 0, 1) := by decide +kernel
theorem dX3_round_3 : decode cX3_round 3 = .ok (.ldc2_w 110, 3) := by decide +kernel
theorem dX3_round_6 : decode cX3_round 6 = .ok (.invokestatic 20, 3) := by decide +kernel
theorem dX3_round_9 : decode cX3_round 9 = .ok (.ifCond .eq 13, 3) := by decide +kernel
theorem dX3_round_12 : decode cX3_round 12 = .ok (.iload_n 2, 1) := by decide +kernel
theorem dX3_round_13 : decode cX3_round 13 = .ok (.i2l, 1) := by decide +kernel
theorem dX3_round_14 : decode cX3_round 14 = .ok (.lconst 0, 1) := by decide +kernel
theorem dX3_round_15 : decode cX3_round 15 = .ok (.lconst 1, 1) := by decide +kernel
theorem dX3_round_16 : decode cX3_round 16 = .ok (.invokestatic 20, 3) := by decide +kernel
theorem dX3_round_19 : decode cX3_round 19 = .ok (.ifCond .ne 7, 3) := by decide +kernel
theorem dX3_round_22 : decode cX3_round 22 = .ok (.ldc2_w 112, 3) := by decide +kernel
theorem dX3_round_25 : decode cX3_round 25 = .ok (.lreturn, 1) := by decide +kernel
theorem dX3_round_26 : decode cX3_round 26 = .ok (.aload_n 0, 1) := by decide +kernel
theorem dX3_round_27 : decode cX3_round 27 = .ok (.invokevirtual 114, 3) := by decide +kernel
theorem dX3_round_30 : decode cX3_round 30 = .ok (.ifCond .ne 7, 3) := by decide +kernel
theorem dX3_round_33 : decode cX3_round 33 = .ok (.ldc2_w 118, 3) := by decide +kernel
theorem dX3_round_36 : decode cX3_round 36 = .ok (.lreturn, 1) := by decide +kernel
theorem dX3_round_37 : decode cX3_round 37 = .ok (.iload_n 1, 1) := by decide +kernel
theorem dX3_round_38 : decode cX3_round 38 = .ok (.ifCond .ne 10, 3) := by decide +kernel
theorem dX3_round_41 : decode cX3_round 41 = .ok (.aload_n 0, 1) := by decide +kernel
theorem dX3_round_42 : decode cX3_round 42 = .ok (.getfield 83, 3) := by decide +kernel
theorem dX3_round_45 : decode cX3_round 45 = .ok (.goto 19, 3) := by decide +kernel
theorem dX3_round_48 : decode cX3_round 48 = .ok (.iload_n 1, 1) := by decide +kernel
theorem dX3_round_49 : decode cX3_round 49 = .ok (.iconst 1, 1) := by decide +kernel
theorem dX3_round_50 : decode cX3_round 50 = .ok (.if_icmp .ne 10, 3) := by decide +kernel
theorem dX3_round_53 : decode cX3_round 53 = .ok (.aload_n 0, 1) := by decide +kernel
theorem dX3_round_54 : decode cX3_round 54 = .ok (.getfield 86, 3) := by decide +kernel
theorem dX3_round_57 : decode cX3_round 57 = .ok (.goto 7, 3) := by decide +kernel
theorem dX3_round_60 : decode cX3_round 60 = .ok (.aload_n 0, 1) := by decide +kernel
theorem dX3_round_61 : decode cX3_round 61 = .ok (.getfield 89, 3) := by decide +kernel
theorem dX3_round_64 : decode cX3_round 64 = .ok (.aload_n 0, 1) := by decide +kernel
theorem dX3_round_65 : decode cX3_round 65 = .ok (.getfield 80, 3) := by decide +kernel
theorem dX3_round_68 : decode cX3_round 68 = .ok (.iload_n 2, 1) := by decide +kernel
theorem dX3_round_69 : decode cX3_round 69 = .ok (.invokestatic 120, 3) := by decide +kernel
theorem dX3_round_72 : decode cX3_round 72 = .ok (.lreturn, 1) := by decide +kernel
set_option maxRecDepth 20000 in
theorem ggX3_middle_X3_in : GoodIn wsX3_middle wsX3_in := goodIn_r _ [10] (by decide +kernel) (by decide +kernel)
set_option maxRecDepth 20000 in
theorem gX3_middle_X3_in : GoodIn wsX3_middle (va_wsS RX3 20 yX3_in wsX3_in) := goodIn_app (goodIn_of _ (by decide +kernel)) ggX3_middle_X3_in
set_option maxRecDepth 20000 in
theorem ggX3_middle_X3_layTaken : GoodIn wsX3_middle wsX3_layTaken := goodIn_r _ [14, 15, 16, 17, 18, 9, 19, 6, 20, 21, 22, 23, 24, 25, 26, 27, 28, 29, 30, 31, 32, 33, 34, 35, 36, 37, 38, 39, 40, 41, 42, 43, 3, 4, 44, 45, 46, 47, 57, 58, 59, 60, 61, 62, 63, 64, 65, 66, 67, 68, 69, 70, 71, 72] (by decide +kernel) (by decide +kernel)
set_option maxRecDepth 20000 in
theorem gX3_middle_X3_layTaken : GoodIn wsX3_middle (wsV RX3 114 RX3 yX3_layTaken wsX3_layTaken) := goodIn_app (goodIn_of _ (by decide +kernel)) ggX3_middle_X3_layTaken
set_option maxRecDepth 20000 in
theorem ggX3_middle_X3_told : GoodIn wsX3_middle wsX3_told := goodIn_r _ [50, 51, 52, 9, 53, 54, 55, 56] (by decide +kernel) (by decide +kernel)
set_option maxRecDepth 20000 in
theorem gX3_middle_X3_told : GoodIn wsX3_middle (va_wsS RX3 120 yX3_told wsX3_told) := goodIn_app (goodIn_of _ (by decide +kernel)) ggX3_middle_X3_told
theorem dX3_middle_0 : decode cX3_middle 0 = .ok (.iload_n 1, 1) := by decide +kernel
theorem dX3_middle_1 : decode cX3_middle 1 = .ok (.i2l, 1) := by decide +kernel
theorem dX3_middle_2 : decode cX3_middle 2 = .ok (.lconst 0, 1) := by decide +kernel
theorem dX3_middle_3 : decode cX3_middle 3 = .ok (.lconst 1, 1) := by decide +kernel
theorem dX3_middle_4 : decode cX3_middle 4 = .ok (.invokestatic 20, 3) := by decide +kernel
theorem dX3_middle_7 : decode cX3_middle 7 = .ok (.ifCond .eq 13, 3) := by decide +kernel
theorem dX3_middle_10 : decode cX3_middle 10 = .ok (.iload_n 2, 1) := by decide +kernel
theorem dX3_middle_11 : decode cX3_middle 11 = .ok (.i2l, 1) := by decide +kernel
theorem dX3_middle_12 : decode cX3_middle 12 = .ok (.lconst 0, 1) := by decide +kernel
theorem dX3_middle_13 : decode cX3_middle 13 = .ok (.lconst 1, 1) := by decide +kernel
theorem dX3_middle_14 : decode cX3_middle 14 = .ok (.invokestatic 20, 3) := by decide +kernel
theorem dX3_middle_17 : decode cX3_middle 17 = .ok (.ifCond .ne 7, 3) := by decide +kernel
theorem dX3_middle_20 : decode cX3_middle 20 = .ok (.ldc2_w 112, 3) := by decide +kernel
theorem dX3_middle_23 : decode cX3_middle 23 = .ok (.lreturn, 1) := by decide +kernel
theorem dX3_middle_24 : decode cX3_middle 24 = .ok (.aload_n 0, 1) := by decide +kernel
theorem dX3_middle_25 : decode cX3_middle 25 = .ok (.invokevirtual 114, 3) := by decide +kernel
theorem dX3_middle_28 : decode cX3_middle 28 = .ok (.ifCond .ne 7, 3) := by decide +kernel
theorem dX3_middle_31 : decode cX3_middle 31 = .ok (.ldc2_w 118, 3) := by decide +kernel
theorem dX3_middle_34 : decode cX3_middle 34 = .ok (.lreturn, 1) := by decide +kernel
theorem dX3_middle_35 : decode cX3_middle 35 = .ok (.iload_n 1, 1) := by decide +kernel
theorem dX3_middle_36 : decode cX3_middle 36 = .ok (.ifCond .ne 10, 3) := by decide +kernel
theorem dX3_middle_39 : decode cX3_middle 39 = .ok (.aload_n 0, 1) := by decide +kernel
theorem dX3_middle_40 : decode cX3_middle 40 = .ok (.getfield 83, 3) := by decide +kernel
theorem dX3_middle_43 : decode cX3_middle 43 = .ok (.goto 7, 3) := by decide +kernel
theorem dX3_middle_46 : decode cX3_middle 46 = .ok (.aload_n 0, 1) := by decide +kernel
theorem dX3_middle_47 : decode cX3_middle 47 = .ok (.getfield 86, 3) := by decide +kernel
theorem dX3_middle_50 : decode cX3_middle 50 = .ok (.ldc2_w 110, 3) := by decide +kernel
theorem dX3_middle_53 : decode cX3_middle 53 = .ok (.aload_n 0, 1) := by decide +kernel
theorem dX3_middle_54 : decode cX3_middle 54 = .ok (.getfield 80, 3) := by decide +kernel
theorem dX3_middle_57 : decode cX3_middle 57 = .ok (.lmul, 1) := by decide +kernel
theorem dX3_middle_58 : decode cX3_middle 58 = .ok (.iload_n 2, 1) := by decide +kernel
theorem dX3_middle_59 : decode cX3_middle 59 = .ok (.invokestatic 120, 3) := by decide +kernel
theorem dX3_middle_62 : decode cX3_middle 62 = .ok (.lreturn, 1) := by decide +kernel
set_option maxRecDepth 20000 in
theorem ggX3_off_X3_isSample : GoodIn wsX3_off wsX3_isSample := goodIn_r _ [9, 10, 11, 12, 8, 13, 65, 66, 67, 68, 69, 70, 71, 72, 73, 74, 75, 76, 77, 78, 79, 80] (by decide +kernel) (by decide +kernel)
set_option maxRecDepth 20000 in
theorem gX3_off_X3_isSample : GoodIn wsX3_off (wsV RX3 32 RX3 yX3_isSample wsX3_isSample) := goodIn_app (goodIn_of _ (by decide +kernel)) ggX3_off_X3_isSample
set_option maxRecDepth 20000 in
theorem ggX3_off_X3_in : GoodIn wsX3_off wsX3_in := goodIn_r _ [13] (by decide +kernel) (by decide +kernel)
set_option maxRecDepth 20000 in
theorem gX3_off_X3_in : GoodIn wsX3_off (va_wsS RX3 20 yX3_in wsX3_in) := goodIn_app (goodIn_of _ (by decide +kernel)) ggX3_off_X3_in
set_option maxRecDepth 20000 in
theorem ggX3_off_X3_layTaken : GoodIn wsX3_off wsX3_layTaken := goodIn_r _ [17, 10, 18, 19, 20, 8, 21, 4, 22, 23, 24, 25, 26, 27, 28, 29, 30, 31, 32, 33, 34, 35, 36, 37, 38, 39, 40, 41, 42, 43, 44, 45, 46, 47, 48, 49, 50, 51, 65, 66, 67, 68, 69, 70, 71, 72, 73, 74, 75, 76, 77, 78, 79, 80] (by decide +kernel) (by decide +kernel)
set_option maxRecDepth 20000 in
theorem gX3_off_X3_layTaken : GoodIn wsX3_off (wsV RX3 114 RX3 yX3_layTaken wsX3_layTaken) := goodIn_app (goodIn_of _ (by decide +kernel)) ggX3_off_X3_layTaken
set_option maxRecDepth 20000 in
theorem ggX3_off_X3_offOf : GoodIn wsX3_off wsX3_offOf := goodIn_r _ [55, 10, 4, 46, 47, 48, 39, 40, 8, 41, 65, 66, 67, 68, 69, 70, 71, 72, 73, 74, 75, 76, 77, 78, 79, 80] (by decide +kernel) (by decide +kernel)
set_option maxRecDepth 20000 in
theorem gX3_off_X3_offOf : GoodIn wsX3_off (wsV RX3 126 RX3 yX3_offOf wsX3_offOf) := goodIn_app (goodIn_of _ (by decide +kernel)) ggX3_off_X3_offOf
set_option maxRecDepth 20000 in
theorem ggX3_off_X3_told : GoodIn wsX3_off wsX3_told := goodIn_r _ [58, 59, 60, 8, 61, 62, 63, 64] (by decide +kernel) (by decide +kernel)
set_option maxRecDepth 20000 in
theorem gX3_off_X3_told : GoodIn wsX3_off (va_wsS RX3 120 yX3_told wsX3_told) := goodIn_app (goodIn_of _ (by decide +kernel)) ggX3_off_X3_told
theorem dX3_off_0 : decode cX3_off 0 = .ok (.aload_n 0, 1) := by decide +kernel
theorem dX3_off_1 : decode cX3_off 1 = .ok (.iload_n 1, 1) := by decide +kernel
theorem dX3_off_2 : decode cX3_off 2 = .ok (.invokevirtual 32, 3) := by decide +kernel
theorem dX3_off_5 : decode cX3_off 5 = .ok (.ifCond .ne 7, 3) := by decide +kernel
theorem dX3_off_8 : decode cX3_off 8 = .ok (.ldc2_w 124, 3) := by decide +kernel
theorem dX3_off_11 : decode cX3_off 11 = .ok (.lreturn, 1) := by decide +kernel
theorem dX3_off_12 : decode cX3_off 12 = .ok (.iload_n 2, 1) := by decide +kernel
theorem dX3_off_13 : decode cX3_off 13 = .ok (.i2l, 1) := by decide +kernel
theorem dX3_off_14 : decode cX3_off 14 = .ok (.lconst 0, 1) := by decide +kernel
theorem dX3_off_15 : decode cX3_off 15 = .ok (.lconst 1, 1) := by decide +kernel
theorem dX3_off_16 : decode cX3_off 16 = .ok (.invokestatic 20, 3) := by decide +kernel
theorem dX3_off_19 : decode cX3_off 19 = .ok (.ifCond .ne 7, 3) := by decide +kernel
theorem dX3_off_22 : decode cX3_off 22 = .ok (.ldc2_w 112, 3) := by decide +kernel
theorem dX3_off_25 : decode cX3_off 25 = .ok (.lreturn, 1) := by decide +kernel
theorem dX3_off_26 : decode cX3_off 26 = .ok (.aload_n 0, 1) := by decide +kernel
theorem dX3_off_27 : decode cX3_off 27 = .ok (.invokevirtual 114, 3) := by decide +kernel
theorem dX3_off_30 : decode cX3_off 30 = .ok (.ifCond .ne 7, 3) := by decide +kernel
theorem dX3_off_33 : decode cX3_off 33 = .ok (.ldc2_w 118, 3) := by decide +kernel
theorem dX3_off_36 : decode cX3_off 36 = .ok (.lreturn, 1) := by decide +kernel
theorem dX3_off_37 : decode cX3_off 37 = .ok (.aload_n 0, 1) := by decide +kernel
theorem dX3_off_38 : decode cX3_off 38 = .ok (.iload_n 1, 1) := by decide +kernel
theorem dX3_off_39 : decode cX3_off 39 = .ok (.invokevirtual 126, 3) := by decide +kernel
theorem dX3_off_42 : decode cX3_off 42 = .ok (.aload_n 0, 1) := by decide +kernel
theorem dX3_off_43 : decode cX3_off 43 = .ok (.getfield 80, 3) := by decide +kernel
theorem dX3_off_46 : decode cX3_off 46 = .ok (.iload_n 2, 1) := by decide +kernel
theorem dX3_off_47 : decode cX3_off 47 = .ok (.invokestatic 120, 3) := by decide +kernel
theorem dX3_off_50 : decode cX3_off 50 = .ok (.lreturn, 1) := by decide +kernel
set_option maxRecDepth 20000 in
theorem ggX3_worstOf_X3_offOf : GoodIn wsX3_worstOf wsX3_offOf := goodIn_r _ [6, 1, 7, 8, 9, 10, 11, 12, 5, 13, 17, 18, 19, 20, 21, 22, 23, 24, 25, 26, 27, 28, 29, 30, 31, 32] (by decide +kernel) (by decide +kernel)
set_option maxRecDepth 20000 in
theorem gX3_worstOf_X3_offOf : GoodIn wsX3_worstOf (wsV RX3 126 RX3 yX3_offOf wsX3_offOf) := goodIn_app (goodIn_of _ (by decide +kernel)) ggX3_worstOf_X3_offOf
set_option maxRecDepth 20000 in
theorem ggX3_worstOf_X3_plain : GoodIn wsX3_worstOf wsX3_plain := goodIn_r _ [16] (by decide +kernel) (by decide +kernel)
set_option maxRecDepth 20000 in
theorem gX3_worstOf_X3_plain : GoodIn wsX3_worstOf (va_wsS RX3 102 yX3_plain wsX3_plain) := goodIn_app (goodIn_of _ (by decide +kernel)) ggX3_worstOf_X3_plain
theorem dX3_worstOf_0 : decode cX3_worstOf 0 = .ok (.bipush (-6), 2) := by decide +kernel
theorem dX3_worstOf_2 : decode cX3_worstOf 2 = .ok (.istore_n 2, 1) := by decide +kernel
theorem dX3_worstOf_3 : decode cX3_worstOf 3 = .ok (.iconst 0, 1) := by decide +kernel
theorem dX3_worstOf_4 : decode cX3_worstOf 4 = .ok (.istore_n 3, 1) := by decide +kernel
theorem dX3_worstOf_5 : decode cX3_worstOf 5 = .ok (.iload_n 3, 1) := by decide +kernel
theorem dX3_worstOf_6 : decode cX3_worstOf 6 = .ok (.aload_n 0, 1) := by decide +kernel
theorem dX3_worstOf_7 : decode cX3_worstOf 7 = .ok (.getfield 7, 3) := by decide +kernel
theorem dX3_worstOf_10 : decode cX3_worstOf 10 = .ok (.bipush 20, 2) := by decide +kernel
theorem dX3_worstOf_12 : decode cX3_worstOf 12 = .ok (.iaload, 1) := by decide +kernel
theorem dX3_worstOf_13 : decode cX3_worstOf 13 = .ok (.if_icmp .ge 44, 3) := by decide +kernel
theorem dX3_worstOf_16 : decode cX3_worstOf 16 = .ok (.iload_n 1, 1) := by decide +kernel
theorem dX3_worstOf_17 : decode cX3_worstOf 17 = .ok (.iload_n 3, 1) := by decide +kernel
theorem dX3_worstOf_18 : decode cX3_worstOf 18 = .ok (.ishr, 1) := by decide +kernel
theorem dX3_worstOf_19 : decode cX3_worstOf 19 = .ok (.iconst 1, 1) := by decide +kernel
theorem dX3_worstOf_20 : decode cX3_worstOf 20 = .ok (.iand, 1) := by decide +kernel
theorem dX3_worstOf_21 : decode cX3_worstOf 21 = .ok (.iconst 1, 1) := by decide +kernel
theorem dX3_worstOf_22 : decode cX3_worstOf 22 = .ok (.if_icmp .ne 29, 3) := by decide +kernel
theorem dX3_worstOf_25 : decode cX3_worstOf 25 = .ok (.iload_n 2, 1) := by decide +kernel
theorem dX3_worstOf_26 : decode cX3_worstOf 26 = .ok (.ifCond .lt 23, 3) := by decide +kernel
theorem dX3_worstOf_29 : decode cX3_worstOf 29 = .ok (.aload_n 0, 1) := by decide +kernel
theorem dX3_worstOf_30 : decode cX3_worstOf 30 = .ok (.iload_n 3, 1) := by decide +kernel
theorem dX3_worstOf_31 : decode cX3_worstOf 31 = .ok (.invokevirtual 126, 3) := by decide +kernel
theorem dX3_worstOf_34 : decode cX3_worstOf 34 = .ok (.invokestatic 102, 3) := by decide +kernel
theorem dX3_worstOf_37 : decode cX3_worstOf 37 = .ok (.aload_n 0, 1) := by decide +kernel
theorem dX3_worstOf_38 : decode cX3_worstOf 38 = .ok (.iload_n 2, 1) := by decide +kernel
theorem dX3_worstOf_39 : decode cX3_worstOf 39 = .ok (.invokevirtual 126, 3) := by decide +kernel
theorem dX3_worstOf_42 : decode cX3_worstOf 42 = .ok (.invokestatic 102, 3) := by decide +kernel
theorem dX3_worstOf_45 : decode cX3_worstOf 45 = .ok (.lcmp, 1) := by decide +kernel
theorem dX3_worstOf_46 : decode cX3_worstOf 46 = .ok (.ifCond .le 5, 3) := by decide +kernel
theorem dX3_worstOf_49 : decode cX3_worstOf 49 = .ok (.iload_n 3, 1) := by decide +kernel
theorem dX3_worstOf_50 : decode cX3_worstOf 50 = .ok (.istore_n 2, 1) := by decide +kernel
theorem dX3_worstOf_51 : decode cX3_worstOf 51 = .ok (.iinc 3 1, 3) := by decide +kernel
theorem dX3_worstOf_54 : decode cX3_worstOf 54 = .ok (.goto (-49), 3) := by decide +kernel
theorem dX3_worstOf_57 : decode cX3_worstOf 57 = .ok (.iload_n 2, 1) := by decide +kernel
theorem dX3_worstOf_58 : decode cX3_worstOf 58 = .ok (.ireturn, 1) := by decide +kernel
set_option maxRecDepth 20000 in
theorem ggX3_worst_X3_in : GoodIn wsX3_worst wsX3_in := goodIn_r _ [6] (by decide +kernel) (by decide +kernel)
set_option maxRecDepth 20000 in
theorem gX3_worst_X3_in : GoodIn wsX3_worst (va_wsS RX3 20 yX3_in wsX3_in) := goodIn_app (goodIn_of _ (by decide +kernel)) ggX3_worst_X3_in
set_option maxRecDepth 20000 in
theorem ggX3_worst_X3_layTaken : GoodIn wsX3_worst wsX3_layTaken := goodIn_r _ [10, 1, 11, 12, 13, 5, 14, 2, 15, 16, 17, 18, 19, 20, 21, 22, 23, 24, 25, 26, 27, 28, 29, 30, 31, 32, 33, 34, 35, 36, 37, 38, 39, 40, 41, 42, 43, 44, 56, 57, 58, 59, 60, 61, 62, 63, 64, 65, 66, 67, 68, 69, 70, 71] (by decide +kernel) (by decide +kernel)
set_option maxRecDepth 20000 in
theorem gX3_worst_X3_layTaken : GoodIn wsX3_worst (wsV RX3 114 RX3 yX3_layTaken wsX3_layTaken) := goodIn_app (goodIn_of _ (by decide +kernel)) ggX3_worst_X3_layTaken
set_option maxRecDepth 20000 in
theorem ggX3_worst_X3_worstOf : GoodIn wsX3_worst wsX3_worstOf := goodIn_r _ [48, 1, 49, 50, 51, 5, 52, 2, 39, 40, 41, 32, 33, 34, 53, 54, 55, 56, 57, 58, 59, 60, 61, 62, 63, 64, 65, 66, 67, 68, 69, 70, 71] (by decide +kernel) (by decide +kernel)
set_option maxRecDepth 20000 in
theorem gX3_worst_X3_worstOf : GoodIn wsX3_worst (wsV RX3 130 RX3 yX3_worstOf wsX3_worstOf) := goodIn_app (goodIn_of _ (by decide +kernel)) ggX3_worst_X3_worstOf
set_option maxRecDepth 20000 in
theorem ggX3_worst_X3_offOf : GoodIn wsX3_worst wsX3_offOf := goodIn_r _ [52, 1, 2, 39, 40, 41, 32, 33, 5, 34, 56, 57, 58, 59, 60, 61, 62, 63, 64, 65, 66, 67, 68, 69, 70, 71] (by decide +kernel) (by decide +kernel)
set_option maxRecDepth 20000 in
theorem gX3_worst_X3_offOf : GoodIn wsX3_worst (wsV RX3 126 RX3 yX3_offOf wsX3_offOf) := goodIn_app (goodIn_of _ (by decide +kernel)) ggX3_worst_X3_offOf
set_option maxRecDepth 20000 in
theorem ggX3_worst_X3_plain : GoodIn wsX3_worst wsX3_plain := goodIn_r _ [55] (by decide +kernel) (by decide +kernel)
set_option maxRecDepth 20000 in
theorem gX3_worst_X3_plain : GoodIn wsX3_worst (va_wsS RX3 102 yX3_plain wsX3_plain) := goodIn_app (goodIn_of _ (by decide +kernel)) ggX3_worst_X3_plain
theorem dX3_worst_0 : decode cX3_worst 0 = .ok (.iload_n 1, 1) := by decide +kernel
theorem dX3_worst_1 : decode cX3_worst 1 = .ok (.i2l, 1) := by decide +kernel
theorem dX3_worst_2 : decode cX3_worst 2 = .ok (.lconst 0, 1) := by decide +kernel
theorem dX3_worst_3 : decode cX3_worst 3 = .ok (.lconst 1, 1) := by decide +kernel
theorem dX3_worst_4 : decode cX3_worst 4 = .ok (.invokestatic 20, 3) := by decide +kernel
theorem dX3_worst_7 : decode cX3_worst 7 = .ok (.ifCond .ne 6, 3) := by decide +kernel
theorem dX3_worst_10 : decode cX3_worst 10 = .ok (.bipush (-2), 2) := by decide +kernel
theorem dX3_worst_12 : decode cX3_worst 12 = .ok (.ireturn, 1) := by decide +kernel
theorem dX3_worst_13 : decode cX3_worst 13 = .ok (.aload_n 0, 1) := by decide +kernel
theorem dX3_worst_14 : decode cX3_worst 14 = .ok (.invokevirtual 114, 3) := by decide +kernel
theorem dX3_worst_17 : decode cX3_worst 17 = .ok (.ifCond .ne 6, 3) := by decide +kernel
theorem dX3_worst_20 : decode cX3_worst 20 = .ok (.bipush (-5), 2) := by decide +kernel
theorem dX3_worst_22 : decode cX3_worst 22 = .ok (.ireturn, 1) := by decide +kernel
theorem dX3_worst_23 : decode cX3_worst 23 = .ok (.aload_n 0, 1) := by decide +kernel
theorem dX3_worst_24 : decode cX3_worst 24 = .ok (.aload_n 0, 1) := by decide +kernel
theorem dX3_worst_25 : decode cX3_worst 25 = .ok (.getfield 7, 3) := by decide +kernel
theorem dX3_worst_28 : decode cX3_worst 28 = .ok (.bipush 21, 2) := by decide +kernel
theorem dX3_worst_30 : decode cX3_worst 30 = .ok (.iaload, 1) := by decide +kernel
theorem dX3_worst_31 : decode cX3_worst 31 = .ok (.invokevirtual 130, 3) := by decide +kernel
theorem dX3_worst_34 : decode cX3_worst 34 = .ok (.istore_n 2, 1) := by decide +kernel
theorem dX3_worst_35 : decode cX3_worst 35 = .ok (.iload_n 1, 1) := by decide +kernel
theorem dX3_worst_36 : decode cX3_worst 36 = .ok (.ifCond .ne 7, 3) := by decide +kernel
theorem dX3_worst_39 : decode cX3_worst 39 = .ok (.iload_n 2, 1) := by decide +kernel
theorem dX3_worst_40 : decode cX3_worst 40 = .ok (.goto 17, 3) := by decide +kernel
theorem dX3_worst_43 : decode cX3_worst 43 = .ok (.aload_n 0, 1) := by decide +kernel
theorem dX3_worst_44 : decode cX3_worst 44 = .ok (.iload_n 2, 1) := by decide +kernel
theorem dX3_worst_45 : decode cX3_worst 45 = .ok (.invokevirtual 126, 3) := by decide +kernel
theorem dX3_worst_48 : decode cX3_worst 48 = .ok (.invokestatic 102, 3) := by decide +kernel
theorem dX3_worst_51 : decode cX3_worst 51 = .ok (.aload_n 0, 1) := by decide +kernel
theorem dX3_worst_52 : decode cX3_worst 52 = .ok (.getfield 80, 3) := by decide +kernel
theorem dX3_worst_55 : decode cX3_worst 55 = .ok (.ldiv, 1) := by decide +kernel
theorem dX3_worst_56 : decode cX3_worst 56 = .ok (.l2i, 1) := by decide +kernel
theorem dX3_worst_57 : decode cX3_worst 57 = .ok (.ireturn, 1) := by decide +kernel
theorem dX3_eighthOf_0 : decode cX3_eighthOf 0 = .ok (.lload_n 2, 1) := by decide +kernel
theorem dX3_eighthOf_1 : decode cX3_eighthOf 1 = .ok (.lconst 0, 1) := by decide +kernel
theorem dX3_eighthOf_2 : decode cX3_eighthOf 2 = .ok (.lcmp, 1) := by decide +kernel
theorem dX3_eighthOf_3 : decode cX3_eighthOf 3 = .ok (.ifCond .lt 11, 3) := by decide +kernel
theorem dX3_eighthOf_6 : decode cX3_eighthOf 6 = .ok (.lload_n 0, 1) := by decide +kernel
theorem dX3_eighthOf_7 : decode cX3_eighthOf 7 = .ok (.lload_n 2, 1) := by decide +kernel
theorem dX3_eighthOf_8 : decode cX3_eighthOf 8 = .ok (.lcmp, 1) := by decide +kernel
theorem dX3_eighthOf_9 : decode cX3_eighthOf 9 = .ok (.ifCond .le 5, 3) := by decide +kernel
theorem dX3_eighthOf_12 : decode cX3_eighthOf 12 = .ok (.iconst 0, 1) := by decide +kernel
theorem dX3_eighthOf_13 : decode cX3_eighthOf 13 = .ok (.ireturn, 1) := by decide +kernel
theorem dX3_eighthOf_14 : decode cX3_eighthOf 14 = .ok (.lload_n 0, 1) := by decide +kernel
theorem dX3_eighthOf_15 : decode cX3_eighthOf 15 = .ok (.lconst 0, 1) := by decide +kernel
theorem dX3_eighthOf_16 : decode cX3_eighthOf 16 = .ok (.lcmp, 1) := by decide +kernel
theorem dX3_eighthOf_17 : decode cX3_eighthOf 17 = .ok (.ifCond .le 11, 3) := by decide +kernel
theorem dX3_eighthOf_20 : decode cX3_eighthOf 20 = .ok (.lload_n 2, 1) := by decide +kernel
theorem dX3_eighthOf_21 : decode cX3_eighthOf 21 = .ok (.lload_n 0, 1) := by decide +kernel
theorem dX3_eighthOf_22 : decode cX3_eighthOf 22 = .ok (.lcmp, 1) := by decide +kernel
theorem dX3_eighthOf_23 : decode cX3_eighthOf 23 = .ok (.ifCond .lt 5, 3) := by decide +kernel
theorem dX3_eighthOf_26 : decode cX3_eighthOf 26 = .ok (.iconst 1, 1) := by decide +kernel
theorem dX3_eighthOf_27 : decode cX3_eighthOf 27 = .ok (.ireturn, 1) := by decide +kernel
theorem dX3_eighthOf_28 : decode cX3_eighthOf 28 = .ok (.lload_n 0, 1) := by decide +kernel
theorem dX3_eighthOf_29 : decode cX3_eighthOf 29 = .ok (.lconst 0, 1) := by decide +kernel
theorem dX3_eighthOf_30 : decode cX3_eighthOf 30 = .ok (.lcmp, 1) := by decide +kernel
theorem dX3_eighthOf_31 : decode cX3_eighthOf 31 = .ok (.ifCond .gt 12, 3) := by decide +kernel
theorem dX3_eighthOf_34 : decode cX3_eighthOf 34 = .ok (.lload_n 2, 1) := by decide +kernel
theorem dX3_eighthOf_35 : decode cX3_eighthOf 35 = .ok (.lload_n 0, 1) := by decide +kernel
theorem dX3_eighthOf_36 : decode cX3_eighthOf 36 = .ok (.lneg, 1) := by decide +kernel
theorem dX3_eighthOf_37 : decode cX3_eighthOf 37 = .ok (.lcmp, 1) := by decide +kernel
theorem dX3_eighthOf_38 : decode cX3_eighthOf 38 = .ok (.ifCond .le 5, 3) := by decide +kernel
theorem dX3_eighthOf_41 : decode cX3_eighthOf 41 = .ok (.iconst 2, 1) := by decide +kernel
theorem dX3_eighthOf_42 : decode cX3_eighthOf 42 = .ok (.ireturn, 1) := by decide +kernel
theorem dX3_eighthOf_43 : decode cX3_eighthOf 43 = .ok (.lload_n 2, 1) := by decide +kernel
theorem dX3_eighthOf_44 : decode cX3_eighthOf 44 = .ok (.lconst 0, 1) := by decide +kernel
