theorem dX3_eighthOf_45 : decode cX3_eighthOf 45 = .ok (.lcmp, 1) := by decide +kernel
theorem dX3_eighthOf_46 : decode cX3_eighthOf 46 = .ok (.ifCond .le 12, 3) := by decide +kernel
theorem dX3_eighthOf_49 : decode cX3_eighthOf 49 = .ok (.lload_n 0, 1) := by decide +kernel
theorem dX3_eighthOf_50 : decode cX3_eighthOf 50 = .ok (.lneg, 1) := by decide +kernel
theorem dX3_eighthOf_51 : decode cX3_eighthOf 51 = .ok (.lload_n 2, 1) := by decide +kernel
theorem dX3_eighthOf_52 : decode cX3_eighthOf 52 = .ok (.lcmp, 1) := by decide +kernel
theorem dX3_eighthOf_53 : decode cX3_eighthOf 53 = .ok (.ifCond .lt 5, 3) := by decide +kernel
theorem dX3_eighthOf_56 : decode cX3_eighthOf 56 = .ok (.iconst 3, 1) := by decide +kernel
theorem dX3_eighthOf_57 : decode cX3_eighthOf 57 = .ok (.ireturn, 1) := by decide +kernel
theorem dX3_eighthOf_58 : decode cX3_eighthOf 58 = .ok (.lload_n 2, 1) := by decide +kernel
theorem dX3_eighthOf_59 : decode cX3_eighthOf 59 = .ok (.lconst 0, 1) := by decide +kernel
theorem dX3_eighthOf_60 : decode cX3_eighthOf 60 = .ok (.lcmp, 1) := by decide +kernel
theorem dX3_eighthOf_61 : decode cX3_eighthOf 61 = .ok (.ifCond .gt 13, 3) := by decide +kernel
theorem dX3_eighthOf_64 : decode cX3_eighthOf 64 = .ok (.lload_n 0, 1) := by decide +kernel
theorem dX3_eighthOf_65 : decode cX3_eighthOf 65 = .ok (.lneg, 1) := by decide +kernel
theorem dX3_eighthOf_66 : decode cX3_eighthOf 66 = .ok (.lload_n 2, 1) := by decide +kernel
theorem dX3_eighthOf_67 : decode cX3_eighthOf 67 = .ok (.lneg, 1) := by decide +kernel
theorem dX3_eighthOf_68 : decode cX3_eighthOf 68 = .ok (.lcmp, 1) := by decide +kernel
theorem dX3_eighthOf_69 : decode cX3_eighthOf 69 = .ok (.ifCond .le 5, 3) := by decide +kernel
theorem dX3_eighthOf_72 : decode cX3_eighthOf 72 = .ok (.iconst 4, 1) := by decide +kernel
theorem dX3_eighthOf_73 : decode cX3_eighthOf 73 = .ok (.ireturn, 1) := by decide +kernel
theorem dX3_eighthOf_74 : decode cX3_eighthOf 74 = .ok (.lload_n 0, 1) := by decide +kernel
theorem dX3_eighthOf_75 : decode cX3_eighthOf 75 = .ok (.lconst 0, 1) := by decide +kernel
theorem dX3_eighthOf_76 : decode cX3_eighthOf 76 = .ok (.lcmp, 1) := by decide +kernel
theorem dX3_eighthOf_77 : decode cX3_eighthOf 77 = .ok (.ifCond .ge 13, 3) := by decide +kernel
theorem dX3_eighthOf_80 : decode cX3_eighthOf 80 = .ok (.lload_n 2, 1) := by decide +kernel
theorem dX3_eighthOf_81 : decode cX3_eighthOf 81 = .ok (.lneg, 1) := by decide +kernel
theorem dX3_eighthOf_82 : decode cX3_eighthOf 82 = .ok (.lload_n 0, 1) := by decide +kernel
theorem dX3_eighthOf_83 : decode cX3_eighthOf 83 = .ok (.lneg, 1) := by decide +kernel
theorem dX3_eighthOf_84 : decode cX3_eighthOf 84 = .ok (.lcmp, 1) := by decide +kernel
theorem dX3_eighthOf_85 : decode cX3_eighthOf 85 = .ok (.ifCond .lt 5, 3) := by decide +kernel
theorem dX3_eighthOf_88 : decode cX3_eighthOf 88 = .ok (.iconst 5, 1) := by decide +kernel
theorem dX3_eighthOf_89 : decode cX3_eighthOf 89 = .ok (.ireturn, 1) := by decide +kernel
theorem dX3_eighthOf_90 : decode cX3_eighthOf 90 = .ok (.lload_n 0, 1) := by decide +kernel
theorem dX3_eighthOf_91 : decode cX3_eighthOf 91 = .ok (.lconst 0, 1) := by decide +kernel
theorem dX3_eighthOf_92 : decode cX3_eighthOf 92 = .ok (.lcmp, 1) := by decide +kernel
theorem dX3_eighthOf_93 : decode cX3_eighthOf 93 = .ok (.ifCond .lt 13, 3) := by decide +kernel
theorem dX3_eighthOf_96 : decode cX3_eighthOf 96 = .ok (.lload_n 2, 1) := by decide +kernel
theorem dX3_eighthOf_97 : decode cX3_eighthOf 97 = .ok (.lneg, 1) := by decide +kernel
theorem dX3_eighthOf_98 : decode cX3_eighthOf 98 = .ok (.lload_n 0, 1) := by decide +kernel
theorem dX3_eighthOf_99 : decode cX3_eighthOf 99 = .ok (.lcmp, 1) := by decide +kernel
theorem dX3_eighthOf_100 : decode cX3_eighthOf 100 = .ok (.ifCond .le 6, 3) := by decide +kernel
theorem dX3_eighthOf_103 : decode cX3_eighthOf 103 = .ok (.bipush 6, 2) := by decide +kernel
theorem dX3_eighthOf_105 : decode cX3_eighthOf 105 = .ok (.ireturn, 1) := by decide +kernel
theorem dX3_eighthOf_106 : decode cX3_eighthOf 106 = .ok (.lload_n 2, 1) := by decide +kernel
theorem dX3_eighthOf_107 : decode cX3_eighthOf 107 = .ok (.lconst 0, 1) := by decide +kernel
theorem dX3_eighthOf_108 : decode cX3_eighthOf 108 = .ok (.lcmp, 1) := by decide +kernel
theorem dX3_eighthOf_109 : decode cX3_eighthOf 109 = .ok (.ifCond .ge 15, 3) := by decide +kernel
theorem dX3_eighthOf_112 : decode cX3_eighthOf 112 = .ok (.lload_n 0, 1) := by decide +kernel
theorem dX3_eighthOf_113 : decode cX3_eighthOf 113 = .ok (.lload_n 2, 1) := by decide +kernel
theorem dX3_eighthOf_114 : decode cX3_eighthOf 114 = .ok (.lneg, 1) := by decide +kernel
theorem dX3_eighthOf_115 : decode cX3_eighthOf 115 = .ok (.lcmp, 1) := by decide +kernel
theorem dX3_eighthOf_116 : decode cX3_eighthOf 116 = .ok (.ifCond .lt 8, 3) := by decide +kernel
theorem dX3_eighthOf_119 : decode cX3_eighthOf 119 = .ok (.bipush 7, 2) := by decide +kernel
theorem dX3_eighthOf_121 : decode cX3_eighthOf 121 = .ok (.goto 5, 3) := by decide +kernel
theorem dX3_eighthOf_124 : decode cX3_eighthOf 124 = .ok (.bipush (-6), 2) := by decide +kernel
theorem dX3_eighthOf_126 : decode cX3_eighthOf 126 = .ok (.ireturn, 1) := by decide +kernel
set_option maxRecDepth 20000 in
theorem ggX3_eighthAt_X3_eighthOf : GoodIn wsX3_eighthAt wsX3_eighthOf := goodIn_r _ [8] (by decide +kernel) (by decide +kernel)
set_option maxRecDepth 20000 in
theorem gX3_eighthAt_X3_eighthOf : GoodIn wsX3_eighthAt (va_wsS RX3 133 yX3_eighthOf wsX3_eighthOf) := goodIn_app (goodIn_of _ (by decide +kernel)) ggX3_eighthAt_X3_eighthOf
theorem dX3_eighthAt_0 : decode cX3_eighthAt 0 = .ok (.ldc2_w 110, 3) := by decide +kernel
theorem dX3_eighthAt_3 : decode cX3_eighthAt 3 = .ok (.aload_n 0, 1) := by decide +kernel
theorem dX3_eighthAt_4 : decode cX3_eighthAt 4 = .ok (.getfield 80, 3) := by decide +kernel
theorem dX3_eighthAt_7 : decode cX3_eighthAt 7 = .ok (.lmul, 1) := by decide +kernel
theorem dX3_eighthAt_8 : decode cX3_eighthAt 8 = .ok (.iload_n 1, 1) := by decide +kernel
theorem dX3_eighthAt_9 : decode cX3_eighthAt 9 = .ok (.i2l, 1) := by decide +kernel
theorem dX3_eighthAt_10 : decode cX3_eighthAt 10 = .ok (.lmul, 1) := by decide +kernel
theorem dX3_eighthAt_11 : decode cX3_eighthAt 11 = .ok (.aload_n 0, 1) := by decide +kernel
theorem dX3_eighthAt_12 : decode cX3_eighthAt 12 = .ok (.getfield 83, 3) := by decide +kernel
theorem dX3_eighthAt_15 : decode cX3_eighthAt 15 = .ok (.lsub, 1) := by decide +kernel
theorem dX3_eighthAt_16 : decode cX3_eighthAt 16 = .ok (.ldc2_w 110, 3) := by decide +kernel
theorem dX3_eighthAt_19 : decode cX3_eighthAt 19 = .ok (.aload_n 0, 1) := by decide +kernel
theorem dX3_eighthAt_20 : decode cX3_eighthAt 20 = .ok (.getfield 80, 3) := by decide +kernel
theorem dX3_eighthAt_23 : decode cX3_eighthAt 23 = .ok (.lmul, 1) := by decide +kernel
theorem dX3_eighthAt_24 : decode cX3_eighthAt 24 = .ok (.iload_n 2, 1) := by decide +kernel
theorem dX3_eighthAt_25 : decode cX3_eighthAt 25 = .ok (.i2l, 1) := by decide +kernel
theorem dX3_eighthAt_26 : decode cX3_eighthAt 26 = .ok (.lmul, 1) := by decide +kernel
theorem dX3_eighthAt_27 : decode cX3_eighthAt 27 = .ok (.aload_n 0, 1) := by decide +kernel
theorem dX3_eighthAt_28 : decode cX3_eighthAt 28 = .ok (.getfield 86, 3) := by decide +kernel
theorem dX3_eighthAt_31 : decode cX3_eighthAt 31 = .ok (.lsub, 1) := by decide +kernel
theorem dX3_eighthAt_32 : decode cX3_eighthAt 32 = .ok (.invokestatic 133, 3) := by decide +kernel
theorem dX3_eighthAt_35 : decode cX3_eighthAt 35 = .ok (.ireturn, 1) := by decide +kernel
theorem dX3_bit_0 : decode cX3_bit 0 = .ok (.iload_n 0, 1) := by decide +kernel
theorem dX3_bit_1 : decode cX3_bit 1 = .ok (.ifCond .ge 7, 3) := by decide +kernel
theorem dX3_bit_4 : decode cX3_bit 4 = .ok (.iconst 0, 1) := by decide +kernel
theorem dX3_bit_5 : decode cX3_bit 5 = .ok (.goto 6, 3) := by decide +kernel
theorem dX3_bit_8 : decode cX3_bit 8 = .ok (.iconst 1, 1) := by decide +kernel
theorem dX3_bit_9 : decode cX3_bit 9 = .ok (.iload_n 0, 1) := by decide +kernel
theorem dX3_bit_10 : decode cX3_bit 10 = .ok (.ishl, 1) := by decide +kernel
theorem dX3_bit_11 : decode cX3_bit 11 = .ok (.ireturn, 1) := by decide +kernel
set_option maxRecDepth 20000 in
theorem ggX3_coverOf_X3_eighthAt : GoodIn wsX3_coverOf wsX3_eighthAt := goodIn_r _ [6, 7, 8, 9, 10, 11, 12, 5, 13, 17, 18, 19, 20, 21, 22, 23, 24, 25, 26, 27, 28, 29, 30, 31, 32] (by decide +kernel) (by decide +kernel)
set_option maxRecDepth 20000 in
theorem gX3_coverOf_X3_eighthAt : GoodIn wsX3_coverOf (wsV RX3 137 RX3 yX3_eighthAt wsX3_eighthAt) := goodIn_app (goodIn_of _ (by decide +kernel)) ggX3_coverOf_X3_eighthAt
set_option maxRecDepth 20000 in
theorem ggX3_coverOf_X3_bit : GoodIn wsX3_coverOf wsX3_bit := goodIn_r _ [16] (by decide +kernel) (by decide +kernel)
set_option maxRecDepth 20000 in
theorem gX3_coverOf_X3_bit : GoodIn wsX3_coverOf (va_wsS RX3 140 yX3_bit wsX3_bit) := goodIn_app (goodIn_of _ (by decide +kernel)) ggX3_coverOf_X3_bit
theorem dX3_coverOf_0 : decode cX3_coverOf 0 = .ok (.iconst 0, 1) := by decide +kernel
theorem dX3_coverOf_1 : decode cX3_coverOf 1 = .ok (.istore_n 2, 1) := by decide +kernel
theorem dX3_coverOf_2 : decode cX3_coverOf 2 = .ok (.iconst 0, 1) := by decide +kernel
theorem dX3_coverOf_3 : decode cX3_coverOf 3 = .ok (.istore_n 3, 1) := by decide +kernel
theorem dX3_coverOf_4 : decode cX3_coverOf 4 = .ok (.iload_n 3, 1) := by decide +kernel
theorem dX3_coverOf_5 : decode cX3_coverOf 5 = .ok (.aload_n 0, 1) := by decide +kernel
theorem dX3_coverOf_6 : decode cX3_coverOf 6 = .ok (.getfield 7, 3) := by decide +kernel
theorem dX3_coverOf_9 : decode cX3_coverOf 9 = .ok (.bipush 20, 2) := by decide +kernel
theorem dX3_coverOf_11 : decode cX3_coverOf 11 = .ok (.iaload, 1) := by decide +kernel
theorem dX3_coverOf_12 : decode cX3_coverOf 12 = .ok (.if_icmp .ge 49, 3) := by decide +kernel
theorem dX3_coverOf_15 : decode cX3_coverOf 15 = .ok (.iload_n 2, 1) := by decide +kernel
theorem dX3_coverOf_16 : decode cX3_coverOf 16 = .ok (.iload_n 1, 1) := by decide +kernel
theorem dX3_coverOf_17 : decode cX3_coverOf 17 = .ok (.iload_n 3, 1) := by decide +kernel
theorem dX3_coverOf_18 : decode cX3_coverOf 18 = .ok (.ishr, 1) := by decide +kernel
theorem dX3_coverOf_19 : decode cX3_coverOf 19 = .ok (.iconst 1, 1) := by decide +kernel
theorem dX3_coverOf_20 : decode cX3_coverOf 20 = .ok (.iand, 1) := by decide +kernel
theorem dX3_coverOf_21 : decode cX3_coverOf 21 = .ok (.iconst 1, 1) := by decide +kernel
theorem dX3_coverOf_22 : decode cX3_coverOf 22 = .ok (.if_icmp .ne 30, 3) := by decide +kernel
theorem dX3_coverOf_25 : decode cX3_coverOf 25 = .ok (.aload_n 0, 1) := by decide +kernel
theorem dX3_coverOf_26 : decode cX3_coverOf 26 = .ok (.aload_n 0, 1) := by decide +kernel
theorem dX3_coverOf_27 : decode cX3_coverOf 27 = .ok (.getfield 7, 3) := by decide +kernel
theorem dX3_coverOf_30 : decode cX3_coverOf 30 = .ok (.iconst 0, 1) := by decide +kernel
theorem dX3_coverOf_31 : decode cX3_coverOf 31 = .ok (.iload_n 3, 1) := by decide +kernel
theorem dX3_coverOf_32 : decode cX3_coverOf 32 = .ok (.iadd, 1) := by decide +kernel
theorem dX3_coverOf_33 : decode cX3_coverOf 33 = .ok (.iaload, 1) := by decide +kernel
theorem dX3_coverOf_34 : decode cX3_coverOf 34 = .ok (.aload_n 0, 1) := by decide +kernel
theorem dX3_coverOf_35 : decode cX3_coverOf 35 = .ok (.getfield 7, 3) := by decide +kernel
theorem dX3_coverOf_38 : decode cX3_coverOf 38 = .ok (.bipush 10, 2) := by decide +kernel
theorem dX3_coverOf_40 : decode cX3_coverOf 40 = .ok (.iload_n 3, 1) := by decide +kernel
theorem dX3_coverOf_41 : decode cX3_coverOf 41 = .ok (.iadd, 1) := by decide +kernel
theorem dX3_coverOf_42 : decode cX3_coverOf 42 = .ok (.iaload, 1) := by decide +kernel
theorem dX3_coverOf_43 : decode cX3_coverOf 43 = .ok (.invokevirtual 137, 3) := by decide +kernel
theorem dX3_coverOf_46 : decode cX3_coverOf 46 = .ok (.invokestatic 140, 3) := by decide +kernel
theorem dX3_coverOf_49 : decode cX3_coverOf 49 = .ok (.goto 4, 3) := by decide +kernel
theorem dX3_coverOf_52 : decode cX3_coverOf 52 = .ok (.iconst 0, 1) := by decide +kernel
theorem dX3_coverOf_53 : decode cX3_coverOf 53 = .ok (.ior, 1) := by decide +kernel
theorem dX3_coverOf_54 : decode cX3_coverOf 54 = .ok (.istore_n 2, 1) := by decide +kernel
theorem dX3_coverOf_55 : decode cX3_coverOf 55 = .ok (.iinc 3 1, 3) := by decide +kernel
theorem dX3_coverOf_58 : decode cX3_coverOf 58 = .ok (.goto (-54), 3) := by decide +kernel
theorem dX3_coverOf_61 : decode cX3_coverOf 61 = .ok (.iload_n 2, 1) := by decide +kernel
theorem dX3_coverOf_62 : decode cX3_coverOf 62 = .ok (.ireturn, 1) := by decide +kernel
set_option maxRecDepth 20000 in
theorem ggX3_need_X3_in : GoodIn wsX3_need wsX3_in := goodIn_r _ [6] (by decide +kernel) (by decide +kernel)
set_option maxRecDepth 20000 in
theorem gX3_need_X3_in : GoodIn wsX3_need (va_wsS RX3 20 yX3_in wsX3_in) := goodIn_app (goodIn_of _ (by decide +kernel)) ggX3_need_X3_in
theorem dX3_need_0 : decode cX3_need 0 = .ok (.iload_n 1, 1) := by decide +kernel
theorem dX3_need_1 : decode cX3_need 1 = .ok (.i2l, 1) := by decide +kernel
theorem dX3_need_2 : decode cX3_need 2 = .ok (.lconst 1, 1) := by decide +kernel
theorem dX3_need_3 : decode cX3_need 3 = .ok (.ldc2_w 143, 3) := by decide +kernel
theorem dX3_need_6 : decode cX3_need 6 = .ok (.invokestatic 20, 3) := by decide +kernel
theorem dX3_need_9 : decode cX3_need 9 = .ok (.ifCond .ne 6, 3) := by decide +kernel
theorem dX3_need_12 : decode cX3_need 12 = .ok (.bipush (-2), 2) := by decide +kernel
theorem dX3_need_14 : decode cX3_need 14 = .ok (.ireturn, 1) := by decide +kernel
theorem dX3_need_15 : decode cX3_need 15 = .ok (.aload_n 0, 1) := by decide +kernel
theorem dX3_need_16 : decode cX3_need 16 = .ok (.getfield 7, 3) := by decide +kernel
theorem dX3_need_19 : decode cX3_need 19 = .ok (.bipush 22, 2) := by decide +kernel
theorem dX3_need_21 : decode cX3_need 21 = .ok (.iaload, 1) := by decide +kernel
theorem dX3_need_22 : decode cX3_need 22 = .ok (.istore_n 2, 1) := by decide +kernel
theorem dX3_need_23 : decode cX3_need 23 = .ok (.aload_n 0, 1) := by decide +kernel
theorem dX3_need_24 : decode cX3_need 24 = .ok (.getfield 7, 3) := by decide +kernel
theorem dX3_need_27 : decode cX3_need 27 = .ok (.bipush 22, 2) := by decide +kernel
theorem dX3_need_29 : decode cX3_need 29 = .ok (.iload_n 1, 1) := by decide +kernel
theorem dX3_need_30 : decode cX3_need 30 = .ok (.iastore, 1) := by decide +kernel
theorem dX3_need_31 : decode cX3_need 31 = .ok (.iload_n 2, 1) := by decide +kernel
theorem dX3_need_32 : decode cX3_need 32 = .ok (.ireturn, 1) := by decide +kernel
set_option maxRecDepth 20000 in
theorem ggX3_cover_X3_layTaken : GoodIn wsX3_cover wsX3_layTaken := goodIn_r _ [6, 1, 7, 8, 9, 5, 10, 11, 12, 13, 14, 15, 16, 17, 18, 19, 20, 21, 22, 23, 24, 25, 26, 27, 28, 29, 30, 31, 32, 33, 34, 35, 36, 37, 38, 39, 40, 41, 57, 58, 59, 60, 61, 62, 63, 64, 65, 66, 67, 68, 69, 70, 71, 72] (by decide +kernel) (by decide +kernel)
set_option maxRecDepth 20000 in
theorem gX3_cover_X3_layTaken : GoodIn wsX3_cover (wsV RX3 114 RX3 yX3_layTaken wsX3_layTaken) := goodIn_app (goodIn_of _ (by decide +kernel)) ggX3_cover_X3_layTaken
set_option maxRecDepth 20000 in
theorem ggX3_cover_X3_coverOf : GoodIn wsX3_cover wsX3_coverOf := goodIn_r _ [45, 1, 46, 47, 48, 5, 49, 50, 11, 36, 37, 51, 52, 53, 54, 55, 56, 57, 58, 59, 60, 61, 62, 63, 64, 65, 66, 67, 68, 69, 70, 71, 72] (by decide +kernel) (by decide +kernel)
set_option maxRecDepth 20000 in
theorem gX3_cover_X3_coverOf : GoodIn wsX3_cover (wsV RX3 145 RX3 yX3_coverOf wsX3_coverOf) := goodIn_app (goodIn_of _ (by decide +kernel)) ggX3_cover_X3_coverOf
theorem dX3_cover_0 : decode cX3_cover 0 = .ok (.aload_n 0, 1) := by decide +kernel
theorem dX3_cover_1 : decode cX3_cover 1 = .ok (.invokevirtual 114, 3) := by decide +kernel
theorem dX3_cover_4 : decode cX3_cover 4 = .ok (.ifCond .eq 17, 3) := by decide +kernel
theorem dX3_cover_7 : decode cX3_cover 7 = .ok (.aload_n 0, 1) := by decide +kernel
theorem dX3_cover_8 : decode cX3_cover 8 = .ok (.aload_n 0, 1) := by decide +kernel
theorem dX3_cover_9 : decode cX3_cover 9 = .ok (.getfield 7, 3) := by decide +kernel
theorem dX3_cover_12 : decode cX3_cover 12 = .ok (.bipush 21, 2) := by decide +kernel
theorem dX3_cover_14 : decode cX3_cover 14 = .ok (.iaload, 1) := by decide +kernel
theorem dX3_cover_15 : decode cX3_cover 15 = .ok (.invokevirtual 145, 3) := by decide +kernel
theorem dX3_cover_18 : decode cX3_cover 18 = .ok (.goto 5, 3) := by decide +kernel
theorem dX3_cover_21 : decode cX3_cover 21 = .ok (.bipush (-5), 2) := by decide +kernel
theorem dX3_cover_23 : decode cX3_cover 23 = .ok (.ireturn, 1) := by decide +kernel
set_option maxRecDepth 20000 in
theorem ggX3_isPoor_X3_layTaken : GoodIn wsX3_isPoor wsX3_layTaken := goodIn_r _ [6, 1, 7, 8, 9, 5, 10, 11, 12, 13, 14, 15, 16, 17, 18, 19, 20, 21, 22, 23, 24, 25, 26, 27, 28, 29, 30, 31, 32, 33, 34, 35, 36, 37, 38, 39, 40, 41, 60, 61, 62, 63, 64, 65, 66, 67, 68, 69, 70, 71, 72, 73, 74, 75] (by decide +kernel) (by decide +kernel)
set_option maxRecDepth 20000 in
theorem gX3_isPoor_X3_layTaken : GoodIn wsX3_isPoor (wsV RX3 114 RX3 yX3_layTaken wsX3_layTaken) := goodIn_app (goodIn_of _ (by decide +kernel)) ggX3_isPoor_X3_layTaken
set_option maxRecDepth 20000 in
theorem ggX3_isPoor_X3_coverOf : GoodIn wsX3_isPoor wsX3_coverOf := goodIn_r _ [45, 1, 46, 47, 48, 5, 49, 50, 11, 36, 37, 51, 52, 53, 54, 55, 56, 60, 61, 62, 63, 64, 65, 66, 67, 68, 69, 70, 71, 72, 73, 74, 75] (by decide +kernel) (by decide +kernel)
set_option maxRecDepth 20000 in
theorem gX3_isPoor_X3_coverOf : GoodIn wsX3_isPoor (wsV RX3 145 RX3 yX3_coverOf wsX3_coverOf) := goodIn_app (goodIn_of _ (by decide +kernel)) ggX3_isPoor_X3_coverOf
set_option maxRecDepth 20000 in
theorem ggX3_isPoor_X3_size : GoodIn wsX3_isPoor wsX3_size := goodIn_r _ [59] (by decide +kernel) (by decide +kernel)
set_option maxRecDepth 20000 in
theorem gX3_isPoor_X3_size : GoodIn wsX3_isPoor (va_wsS RX3 36 yX3_size wsX3_size) := goodIn_app (goodIn_of _ (by decide +kernel)) ggX3_isPoor_X3_size
theorem dX3_isPoor_0 : decode cX3_isPoor 0 = .ok (.aload_n 0, 1) := by decide +kernel
theorem dX3_isPoor_1 : decode cX3_isPoor 1 = .ok (.invokevirtual 114, 3) := by decide +kernel
theorem dX3_isPoor_4 : decode cX3_isPoor 4 = .ok (.ifCond .eq 27, 3) := by decide +kernel
theorem dX3_isPoor_7 : decode cX3_isPoor 7 = .ok (.aload_n 0, 1) := by decide +kernel
theorem dX3_isPoor_8 : decode cX3_isPoor 8 = .ok (.aload_n 0, 1) := by decide +kernel
theorem dX3_isPoor_9 : decode cX3_isPoor 9 = .ok (.getfield 7, 3) := by decide +kernel
theorem dX3_isPoor_12 : decode cX3_isPoor 12 = .ok (.bipush 21, 2) := by decide +kernel
theorem dX3_isPoor_14 : decode cX3_isPoor 14 = .ok (.iaload, 1) := by decide +kernel
theorem dX3_isPoor_15 : decode cX3_isPoor 15 = .ok (.invokevirtual 145, 3) := by decide +kernel
theorem dX3_isPoor_18 : decode cX3_isPoor 18 = .ok (.invokestatic 36, 3) := by decide +kernel
theorem dX3_isPoor_21 : decode cX3_isPoor 21 = .ok (.aload_n 0, 1) := by decide +kernel
theorem dX3_isPoor_22 : decode cX3_isPoor 22 = .ok (.getfield 7, 3) := by decide +kernel
theorem dX3_isPoor_25 : decode cX3_isPoor 25 = .ok (.bipush 22, 2) := by decide +kernel
theorem dX3_isPoor_27 : decode cX3_isPoor 27 = .ok (.iaload, 1) := by decide +kernel
theorem dX3_isPoor_28 : decode cX3_isPoor 28 = .ok (.if_icmp .ge 7, 3) := by decide +kernel
theorem dX3_isPoor_31 : decode cX3_isPoor 31 = .ok (.iconst 1, 1) := by decide +kernel
theorem dX3_isPoor_32 : decode cX3_isPoor 32 = .ok (.goto 4, 3) := by decide +kernel
theorem dX3_isPoor_35 : decode cX3_isPoor 35 = .ok (.iconst 0, 1) := by decide +kernel
theorem dX3_isPoor_36 : decode cX3_isPoor 36 = .ok (.ireturn, 1) := by decide +kernel
set_option maxRecDepth 20000 in
theorem ggX3_poor_X3_isPoor : GoodIn wsX3_poor wsX3_isPoor := goodIn_r _ [5, 6, 7, 8, 9, 4, 10, 11, 12, 13, 14, 15, 16, 17, 18, 19, 20, 21, 22, 23, 24, 25, 26, 27, 28, 29, 30, 31, 32, 33, 34, 35, 36, 37, 38, 39, 40, 41, 42, 43, 44, 45, 46, 47, 48, 49, 50, 51, 52, 53, 54, 55, 56, 57, 58, 59, 60, 61, 62, 63, 64, 65, 66, 67, 68, 69, 70, 71, 72, 73, 74, 75, 76, 77, 78, 79] (by decide +kernel) (by decide +kernel)
set_option maxRecDepth 20000 in
theorem gX3_poor_X3_isPoor : GoodIn wsX3_poor (wsV RX3 148 RX3 yX3_isPoor wsX3_isPoor) := goodIn_app (goodIn_of _ (by decide +kernel)) ggX3_poor_X3_isPoor
theorem dX3_poor_0 : decode cX3_poor 0 = .ok (.aload_n 0, 1) := by decide +kernel
theorem dX3_poor_1 : decode cX3_poor 1 = .ok (.invokevirtual 148, 3) := by decide +kernel
theorem dX3_poor_4 : decode cX3_poor 4 = .ok (.ifCond .eq 7, 3) := by decide +kernel
theorem dX3_poor_7 : decode cX3_poor 7 = .ok (.iconst 1, 1) := by decide +kernel
theorem dX3_poor_8 : decode cX3_poor 8 = .ok (.goto 4, 3) := by decide +kernel
theorem dX3_poor_11 : decode cX3_poor 11 = .ok (.iconst 0, 1) := by decide +kernel
theorem dX3_poor_12 : decode cX3_poor 12 = .ok (.ireturn, 1) := by decide +kernel
set_option maxRecDepth 20000 in
theorem ggX3_eighth_X3_isSample : GoodIn wsX3_eighth wsX3_isSample := goodIn_r _ [6, 1, 7, 8, 5, 9, 57, 58, 59, 60, 61, 62, 63, 64, 65, 66, 67, 68, 69, 70, 71, 72] (by decide +kernel) (by decide +kernel)
set_option maxRecDepth 20000 in
theorem gX3_eighth_X3_isSample : GoodIn wsX3_eighth (wsV RX3 32 RX3 yX3_isSample wsX3_isSample) := goodIn_app (goodIn_of _ (by decide +kernel)) ggX3_eighth_X3_isSample
set_option maxRecDepth 20000 in
theorem ggX3_eighth_X3_layTaken : GoodIn wsX3_eighth wsX3_layTaken := goodIn_r _ [13, 1, 14, 15, 16, 5, 17, 18, 19, 20, 21, 22, 23, 24, 25, 26, 27, 28, 29, 30, 31, 32, 33, 34, 35, 36, 37, 38, 39, 40, 41, 42, 43, 44, 45, 46, 47, 48, 57, 58, 59, 60, 61, 62, 63, 64, 65, 66, 67, 68, 69, 70, 71, 72] (by decide +kernel) (by decide +kernel)
set_option maxRecDepth 20000 in
theorem gX3_eighth_X3_layTaken : GoodIn wsX3_eighth (wsV RX3 114 RX3 yX3_layTaken wsX3_layTaken) := goodIn_app (goodIn_of _ (by decide +kernel)) ggX3_eighth_X3_layTaken
set_option maxRecDepth 20000 in
theorem ggX3_eighth_X3_eighthAt : GoodIn wsX3_eighth wsX3_eighthAt := goodIn_r _ [52, 53, 18, 43, 44, 54, 55, 5, 56, 57, 58, 59, 60, 61, 62, 63, 64, 65, 66, 67, 68, 69, 70, 71, 72] (by decide +kernel) (by decide +kernel)
set_option maxRecDepth 20000 in
theorem gX3_eighth_X3_eighthAt : GoodIn wsX3_eighth (wsV RX3 137 RX3 yX3_eighthAt wsX3_eighthAt) := goodIn_app (goodIn_of _ (by decide +kernel)) ggX3_eighth_X3_eighthAt
theorem dX3_eighth_0 : decode cX3_eighth 0 = .ok (.aload_n 0, 1) := by decide +kernel
theorem dX3_eighth_1 : decode cX3_eighth 1 = .ok (.iload_n 1, 1) := by decide +kernel
theorem dX3_eighth_2 : decode cX3_eighth 2 = .ok (.invokevirtual 32, 3) := by decide +kernel
theorem dX3_eighth_5 : decode cX3_eighth 5 = .ok (.ifCond .ne 5, 3) := by decide +kernel
theorem dX3_eighth_8 : decode cX3_eighth 8 = .ok (.iconst (-1), 1) := by decide +kernel
theorem dX3_eighth_9 : decode cX3_eighth 9 = .ok (.ireturn, 1) := by decide +kernel
theorem dX3_eighth_10 : decode cX3_eighth 10 = .ok (.aload_n 0, 1) := by decide +kernel
theorem dX3_eighth_11 : decode cX3_eighth 11 = .ok (.invokevirtual 114, 3) := by decide +kernel
theorem dX3_eighth_14 : decode cX3_eighth 14 = .ok (.ifCond .eq 27, 3) := by decide +kernel
theorem dX3_eighth_17 : decode cX3_eighth 17 = .ok (.aload_n 0, 1) := by decide +kernel
theorem dX3_eighth_18 : decode cX3_eighth 18 = .ok (.aload_n 0, 1) := by decide +kernel
theorem dX3_eighth_19 : decode cX3_eighth 19 = .ok (.getfield 7, 3) := by decide +kernel
theorem dX3_eighth_22 : decode cX3_eighth 22 = .ok (.iconst 0, 1) := by decide +kernel
theorem dX3_eighth_23 : decode cX3_eighth 23 = .ok (.iload_n 1, 1) := by decide +kernel
theorem dX3_eighth_24 : decode cX3_eighth 24 = .ok (.iadd, 1) := by decide +kernel
theorem dX3_eighth_25 : decode cX3_eighth 25 = .ok (.iaload, 1) := by decide +kernel
theorem dX3_eighth_26 : decode cX3_eighth 26 = .ok (.aload_n 0, 1) := by decide +kernel
theorem dX3_eighth_27 : decode cX3_eighth 27 = .ok (.getfield 7, 3) := by decide +kernel
theorem dX3_eighth_30 : decode cX3_eighth 30 = .ok (.bipush 10, 2) := by decide +kernel
theorem dX3_eighth_32 : decode cX3_eighth 32 = .ok (.iload_n 1, 1) := by decide +kernel
theorem dX3_eighth_33 : decode cX3_eighth 33 = .ok (.iadd, 1) := by decide +kernel
theorem dX3_eighth_34 : decode cX3_eighth 34 = .ok (.iaload, 1) := by decide +kernel
theorem dX3_eighth_35 : decode cX3_eighth 35 = .ok (.invokevirtual 137, 3) := by decide +kernel
theorem dX3_eighth_38 : decode cX3_eighth 38 = .ok (.goto 5, 3) := by decide +kernel
theorem dX3_eighth_41 : decode cX3_eighth 41 = .ok (.bipush (-5), 2) := by decide +kernel
theorem dX3_eighth_43 : decode cX3_eighth 43 = .ok (.ireturn, 1) := by decide +kernel
set_option maxRecDepth 20000 in
theorem ggX3_points_X3_isHere : GoodIn wsX3_points wsX3_isHere := goodIn_r _ [4, 5, 6, 7, 8, 3, 9] (by decide +kernel) (by decide +kernel)
set_option maxRecDepth 20000 in
theorem gX3_points_X3_isHere : GoodIn wsX3_points (va_wsS RX3 28 yX3_isHere wsX3_isHere) := goodIn_app (goodIn_of _ (by decide +kernel)) ggX3_points_X3_isHere
set_option maxRecDepth 20000 in
theorem ggX3_points_X3_isPoor : GoodIn wsX3_points wsX3_isPoor := goodIn_r _ [13, 14, 15, 16, 17, 3, 18, 19, 20, 21, 22, 23, 24, 25, 26, 27, 28, 29, 30, 31, 32, 33, 34, 35, 36, 37, 38, 39, 40, 41, 42, 43, 44, 45, 46, 47, 48, 49, 50, 51, 52, 53, 54, 55, 56, 57, 58, 59, 60, 61, 62, 63, 64, 65, 66, 67, 68, 69, 70, 71, 72, 73, 74, 75, 76, 77, 78, 79, 80, 81, 82, 83, 84, 85, 86, 87] (by decide +kernel) (by decide +kernel)
set_option maxRecDepth 20000 in
theorem gX3_points_X3_isPoor : GoodIn wsX3_points (wsV RX3 148 RX3 yX3_isPoor wsX3_isPoor) := goodIn_app (goodIn_of _ (by decide +kernel)) ggX3_points_X3_isPoor
set_option maxRecDepth 20000 in
theorem ggX3_points_X3_eighthAt : GoodIn wsX3_points wsX3_eighthAt := goodIn_r _ [61, 62, 23, 48, 49, 63, 64, 3, 65, 72, 73, 74, 75, 76, 77, 78, 79, 80, 81, 82, 83, 84, 85, 86, 87] (by decide +kernel) (by decide +kernel)
set_option maxRecDepth 20000 in
theorem gX3_points_X3_eighthAt : GoodIn wsX3_points (wsV RX3 137 RX3 yX3_eighthAt wsX3_eighthAt) := goodIn_app (goodIn_of _ (by decide +kernel)) ggX3_points_X3_eighthAt
theorem dX3_points_0 : decode cX3_points 0 = .ok (.iload_n 1, 1) := by decide +kernel
theorem dX3_points_1 : decode cX3_points 1 = .ok (.iload_n 2, 1) := by decide +kernel
theorem dX3_points_2 : decode cX3_points 2 = .ok (.invokestatic 28, 3) := by decide +kernel
theorem dX3_points_5 : decode cX3_points 5 = .ok (.ifCond .ne 6, 3) := by decide +kernel
theorem dX3_points_8 : decode cX3_points 8 = .ok (.bipush (-2), 2) := by decide +kernel
theorem dX3_points_10 : decode cX3_points 10 = .ok (.ireturn, 1) := by decide +kernel
theorem dX3_points_11 : decode cX3_points 11 = .ok (.aload_n 0, 1) := by decide +kernel
theorem dX3_points_12 : decode cX3_points 12 = .ok (.invokevirtual 148, 3) := by decide +kernel
theorem dX3_points_15 : decode cX3_points 15 = .ok (.ifCond .eq 8, 3) := by decide +kernel
theorem dX3_points_18 : decode cX3_points 18 = .ok (.bipush (-5), 2) := by decide +kernel
theorem dX3_points_20 : decode cX3_points 20 = .ok (.goto 9, 3) := by decide +kernel
theorem dX3_points_23 : decode cX3_points 23 = .ok (.aload_n 0, 1) := by decide +kernel
theorem dX3_points_24 : decode cX3_points 24 = .ok (.iload_n 1, 1) := by decide +kernel
theorem dX3_points_25 : decode cX3_points 25 = .ok (.iload_n 2, 1) := by decide +kernel
theorem dX3_points_26 : decode cX3_points 26 = .ok (.invokevirtual 137, 3) := by decide +kernel
theorem dX3_points_29 : decode cX3_points 29 = .ok (.ireturn, 1) := by decide +kernel
set_option maxRecDepth 20000 in
theorem ggX3_bitWith_X3_sumSet : GoodIn wsX3_bitWith wsX3_sumSet := goodIn_r _ [7, 8, 9, 10, 11, 12, 13, 14, 15, 16, 1, 17, 18, 19, 6, 20, 21, 22, 23, 52, 53, 54, 55, 56, 57, 58, 59, 60, 61, 62, 63, 64, 65, 66, 67] (by decide +kernel) (by decide +kernel)
set_option maxRecDepth 20000 in
theorem gX3_bitWith_X3_sumSet : GoodIn wsX3_bitWith (wsV RX3 92 RX3 yX3_sumSet wsX3_sumSet) := goodIn_app (goodIn_of _ (by decide +kernel)) ggX3_bitWith_X3_sumSet
set_option maxRecDepth 20000 in
theorem ggX3_bitWith_X3_sumOne : GoodIn wsX3_bitWith wsX3_sumOne := goodIn_r _ [20, 8, 9, 10, 11, 12, 13, 14, 15, 16, 21, 22, 6, 23, 52, 53, 54, 55, 56, 57, 58, 59, 60, 61, 62, 63, 64, 65, 66, 67] (by decide +kernel) (by decide +kernel)
set_option maxRecDepth 20000 in
theorem gX3_bitWith_X3_sumOne : GoodIn wsX3_bitWith (wsV RX3 72 RX3 yX3_sumOne wsX3_sumOne) := goodIn_app (goodIn_of _ (by decide +kernel)) ggX3_bitWith_X3_sumOne
set_option maxRecDepth 20000 in
theorem ggX3_bitWith_X3_layRound : GoodIn wsX3_bitWith wsX3_layRound := goodIn_r _ [27, 11, 12, 9, 13, 10, 8, 2, 15, 16, 14, 28, 29, 30, 31, 32, 6, 33, 52, 53, 54, 55, 56, 57, 58, 59, 60, 61, 62, 63, 64, 65, 66, 67] (by decide +kernel) (by decide +kernel)
set_option maxRecDepth 20000 in
theorem gX3_bitWith_X3_layRound : GoodIn wsX3_bitWith (wsV RX3 96 RX3 yX3_layRound wsX3_layRound) := goodIn_app (goodIn_of _ (by decide +kernel)) ggX3_bitWith_X3_layRound
set_option maxRecDepth 20000 in
theorem ggX3_bitWith_X3_eighthAt : GoodIn wsX3_bitWith wsX3_eighthAt := goodIn_r _ [37, 38, 2, 28, 29, 39, 40, 6, 41, 52, 53, 54, 55, 56, 57, 58, 59, 60, 61, 62, 63, 64, 65, 66, 67] (by decide +kernel) (by decide +kernel)
set_option maxRecDepth 20000 in
theorem gX3_bitWith_X3_eighthAt : GoodIn wsX3_bitWith (wsV RX3 137 RX3 yX3_eighthAt wsX3_eighthAt) := goodIn_app (goodIn_of _ (by decide +kernel)) ggX3_bitWith_X3_eighthAt
set_option maxRecDepth 20000 in
theorem ggX3_bitWith_X3_bit : GoodIn wsX3_bitWith wsX3_bit := goodIn_r _ [44] (by decide +kernel) (by decide +kernel)
set_option maxRecDepth 20000 in
theorem gX3_bitWith_X3_bit : GoodIn wsX3_bitWith (va_wsS RX3 140 yX3_bit wsX3_bit) := goodIn_app (goodIn_of _ (by decide +kernel)) ggX3_bitWith_X3_bit
set_option maxRecDepth 20000 in
theorem ggX3_bitWith_X3_coverOf : GoodIn wsX3_bitWith wsX3_coverOf := goodIn_r _ [48, 1, 34, 35, 36, 6, 37, 38, 2, 28, 29, 39, 40, 41, 42, 43, 44, 52, 53, 54, 55, 56, 57, 58, 59, 60, 61, 62, 63, 64, 65, 66, 67] (by decide +kernel) (by decide +kernel)
set_option maxRecDepth 20000 in
theorem gX3_bitWith_X3_coverOf : GoodIn wsX3_bitWith (wsV RX3 145 RX3 yX3_coverOf wsX3_coverOf) := goodIn_app (goodIn_of _ (by decide +kernel)) ggX3_bitWith_X3_coverOf
set_option maxRecDepth 20000 in
theorem ggX3_bitWith_X3_size : GoodIn wsX3_bitWith wsX3_size := goodIn_r _ [51] (by decide +kernel) (by decide +kernel)
set_option maxRecDepth 20000 in
theorem gX3_bitWith_X3_size : GoodIn wsX3_bitWith (va_wsS RX3 36 yX3_size wsX3_size) := goodIn_app (goodIn_of _ (by decide +kernel)) ggX3_bitWith_X3_size
theorem dX3_bitWith_0 : decode cX3_bitWith 0 = .ok (.aload_n 0, 1) := by decide +kernel
theorem dX3_bitWith_1 : decode cX3_bitWith 1 = .ok (.aload_n 0, 1) := by decide +kernel
theorem dX3_bitWith_2 : decode cX3_bitWith 2 = .ok (.getfield 7, 3) := by decide +kernel
theorem dX3_bitWith_5 : decode cX3_bitWith 5 = .ok (.bipush 21, 2) := by decide +kernel
theorem dX3_bitWith_7 : decode cX3_bitWith 7 = .ok (.iaload, 1) := by decide +kernel
theorem dX3_bitWith_8 : decode cX3_bitWith 8 = .ok (.invokevirtual 92, 3) := by decide +kernel
theorem dX3_bitWith_11 : decode cX3_bitWith 11 = .ok (.aload_n 0, 1) := by decide +kernel
theorem dX3_bitWith_12 : decode cX3_bitWith 12 = .ok (.iload_n 1, 1) := by decide +kernel
theorem dX3_bitWith_13 : decode cX3_bitWith 13 = .ok (.iload_n 2, 1) := by decide +kernel
theorem dX3_bitWith_14 : decode cX3_bitWith 14 = .ok (.invokevirtual 72, 3) := by decide +kernel
theorem dX3_bitWith_17 : decode cX3_bitWith 17 = .ok (.aload_n 0, 1) := by decide +kernel
theorem dX3_bitWith_18 : decode cX3_bitWith 18 = .ok (.invokevirtual 96, 3) := by decide +kernel
theorem dX3_bitWith_21 : decode cX3_bitWith 21 = .ok (.aload_n 0, 1) := by decide +kernel
theorem dX3_bitWith_22 : decode cX3_bitWith 22 = .ok (.getfield 80, 3) := by decide +kernel
theorem dX3_bitWith_25 : decode cX3_bitWith 25 = .ok (.lconst 0, 1) := by decide +kernel
theorem dX3_bitWith_26 : decode cX3_bitWith 26 = .ok (.lcmp, 1) := by decide +kernel
theorem dX3_bitWith_27 : decode cX3_bitWith 27 = .ok (.ifCond .ne 5, 3) := by decide +kernel
theorem dX3_bitWith_30 : decode cX3_bitWith 30 = .ok (.iconst 0, 1) := by decide +kernel
theorem dX3_bitWith_31 : decode cX3_bitWith 31 = .ok (.ireturn, 1) := by decide +kernel
theorem dX3_bitWith_32 : decode cX3_bitWith 32 = .ok (.aload_n 0, 1) := by decide +kernel
theorem dX3_bitWith_33 : decode cX3_bitWith 33 = .ok (.iload_n 1, 1) := by decide +kernel
theorem dX3_bitWith_34 : decode cX3_bitWith 34 = .ok (.iload_n 2, 1) := by decide +kernel
theorem dX3_bitWith_35 : decode cX3_bitWith 35 = .ok (.invokevirtual 137, 3) := by decide +kernel
theorem dX3_bitWith_38 : decode cX3_bitWith 38 = .ok (.invokestatic 140, 3) := by decide +kernel
theorem dX3_bitWith_41 : decode cX3_bitWith 41 = .ok (.istore_n 3, 1) := by decide +kernel
theorem dX3_bitWith_42 : decode cX3_bitWith 42 = .ok (.aload_n 0, 1) := by decide +kernel
theorem dX3_bitWith_43 : decode cX3_bitWith 43 = .ok (.aload_n 0, 1) := by decide +kernel
theorem dX3_bitWith_44 : decode cX3_bitWith 44 = .ok (.getfield 7, 3) := by decide +kernel
theorem dX3_bitWith_47 : decode cX3_bitWith 47 = .ok (.bipush 21, 2) := by decide +kernel
theorem dX3_bitWith_49 : decode cX3_bitWith 49 = .ok (.iaload, 1) := by decide +kernel
theorem dX3_bitWith_50 : decode cX3_bitWith 50 = .ok (.invokevirtual 145, 3) := by decide +kernel
theorem dX3_bitWith_53 : decode cX3_bitWith 53 = .ok (.iload_n 3, 1) := by decide +kernel
theorem dX3_bitWith_54 : decode cX3_bitWith 54 = .ok (.ior, 1) := by decide +kernel
theorem dX3_bitWith_55 : decode cX3_bitWith 55 = .ok (.invokestatic 36, 3) := by decide +kernel
theorem dX3_bitWith_58 : decode cX3_bitWith 58 = .ok (.aload_n 0, 1) := by decide +kernel
theorem dX3_bitWith_59 : decode cX3_bitWith 59 = .ok (.getfield 7, 3) := by decide +kernel
theorem dX3_bitWith_62 : decode cX3_bitWith 62 = .ok (.bipush 22, 2) := by decide +kernel
theorem dX3_bitWith_64 : decode cX3_bitWith 64 = .ok (.iaload, 1) := by decide +kernel
theorem dX3_bitWith_65 : decode cX3_bitWith 65 = .ok (.if_icmp .ge 7, 3) := by decide +kernel
theorem dX3_bitWith_68 : decode cX3_bitWith 68 = .ok (.iconst 0, 1) := by decide +kernel
theorem dX3_bitWith_69 : decode cX3_bitWith 69 = .ok (.goto 4, 3) := by decide +kernel
theorem dX3_bitWith_72 : decode cX3_bitWith 72 = .ok (.iload_n 3, 1) := by decide +kernel
theorem dX3_bitWith_73 : decode cX3_bitWith 73 = .ok (.ireturn, 1) := by decide +kernel
set_option maxRecDepth 20000 in
theorem ggX3_helps_X3_bitWith : GoodIn wsX3_helps wsX3_bitWith := goodIn_r _ [6, 1, 7, 8, 9, 10, 5, 11, 12, 13, 14, 15, 16, 17, 18, 19, 20, 21, 22, 23, 24, 25, 26, 27, 28, 29, 30, 31, 32, 33, 34, 35, 36, 37, 38, 39, 40, 41, 42, 43, 44, 45, 46, 47, 48, 49, 50, 51, 52, 53, 54, 55, 56, 57, 58, 59, 60, 61, 62, 63, 64, 65, 66, 67, 68, 69, 70, 71] (by decide +kernel) (by decide +kernel)
set_option maxRecDepth 20000 in
theorem gX3_helps_X3_bitWith : GoodIn wsX3_helps (wsV RX3 151 RX3 yX3_bitWith wsX3_bitWith) := goodIn_app (goodIn_of _ (by decide +kernel)) ggX3_helps_X3_bitWith
theorem dX3_helps_0 : decode cX3_helps 0 = .ok (.aload_n 0, 1) := by decide +kernel
theorem dX3_helps_1 : decode cX3_helps 1 = .ok (.getfield 7, 3) := by decide +kernel
theorem dX3_helps_4 : decode cX3_helps 4 = .ok (.bipush 20, 2) := by decide +kernel
theorem dX3_helps_6 : decode cX3_helps 6 = .ok (.iaload, 1) := by decide +kernel
theorem dX3_helps_7 : decode cX3_helps 7 = .ok (.bipush 10, 2) := by decide +kernel
theorem dX3_helps_9 : decode cX3_helps 9 = .ok (.if_icmp .ne 5, 3) := by decide +kernel
theorem dX3_helps_12 : decode cX3_helps 12 = .ok (.iconst 0, 1) := by decide +kernel
theorem dX3_helps_13 : decode cX3_helps 13 = .ok (.ireturn, 1) := by decide +kernel
theorem dX3_helps_14 : decode cX3_helps 14 = .ok (.iconst 0, 1) := by decide +kernel
theorem dX3_helps_15 : decode cX3_helps 15 = .ok (.istore_n 1, 1) := by decide +kernel
theorem dX3_helps_16 : decode cX3_helps 16 = .ok (.bipush (-40), 2) := by decide +kernel
theorem dX3_helps_18 : decode cX3_helps 18 = .ok (.istore_n 2, 1) := by decide +kernel
theorem dX3_helps_19 : decode cX3_helps 19 = .ok (.iload_n 2, 1) := by decide +kernel
theorem dX3_helps_20 : decode cX3_helps 20 = .ok (.bipush 40, 2) := by decide +kernel
theorem dX3_helps_22 : decode cX3_helps 22 = .ok (.if_icmp .gt 33, 3) := by decide +kernel
theorem dX3_helps_25 : decode cX3_helps 25 = .ok (.bipush (-40), 2) := by decide +kernel
theorem dX3_helps_27 : decode cX3_helps 27 = .ok (.istore_n 3, 1) := by decide +kernel
theorem dX3_helps_28 : decode cX3_helps 28 = .ok (.iload_n 3, 1) := by decide +kernel
theorem dX3_helps_29 : decode cX3_helps 29 = .ok (.bipush 40, 2) := by decide +kernel
theorem dX3_helps_31 : decode cX3_helps 31 = .ok (.if_icmp .gt 18, 3) := by decide +kernel
theorem dX3_helps_34 : decode cX3_helps 34 = .ok (.iload_n 1, 1) := by decide +kernel
theorem dX3_helps_35 : decode cX3_helps 35 = .ok (.aload_n 0, 1) := by decide +kernel
theorem dX3_helps_36 : decode cX3_helps 36 = .ok (.iload_n 2, 1) := by decide +kernel
theorem dX3_helps_37 : decode cX3_helps 37 = .ok (.iload_n 3, 1) := by decide +kernel
theorem dX3_helps_38 : decode cX3_helps 38 = .ok (.invokevirtual 151, 3) := by decide +kernel
theorem dX3_helps_41 : decode cX3_helps 41 = .ok (.ior, 1) := by decide +kernel
theorem dX3_helps_42 : decode cX3_helps 42 = .ok (.istore_n 1, 1) := by decide +kernel
theorem dX3_helps_43 : decode cX3_helps 43 = .ok (.iinc 3 1, 3) := by decide +kernel
theorem dX3_helps_46 : decode cX3_helps 46 = .ok (.goto (-18), 3) := by decide +kernel
theorem dX3_helps_49 : decode cX3_helps 49 = .ok (.iinc 2 1, 3) := by decide +kernel
theorem dX3_helps_52 : decode cX3_helps 52 = .ok (.goto (-33), 3) := by decide +kernel
theorem dX3_helps_55 : decode cX3_helps 55 = .ok (.iload_n 1, 1) := by decide +kernel
theorem dX3_helps_56 : decode cX3_helps 56 = .ok (.ireturn, 1) := by decide +kernel
set_option maxRecDepth 20000 in
theorem ggX3_trim_X3_in : GoodIn wsX3_trim wsX3_in := goodIn_r _ [7] (by decide +kernel) (by decide +kernel)
set_option maxRecDepth 20000 in
theorem gX3_trim_X3_in : GoodIn wsX3_trim (va_wsS RX3 20 yX3_in wsX3_in) := goodIn_app (goodIn_of _ (by decide +kernel)) ggX3_trim_X3_in
set_option maxRecDepth 20000 in
theorem ggX3_trim_X3_layTaken : GoodIn wsX3_trim wsX3_layTaken := goodIn_r _ [11, 2, 12, 13, 14, 6, 15, 3, 16, 17, 18, 19, 20, 21, 22, 23, 24, 25, 26, 27, 28, 29, 30, 31, 32, 33, 34, 35, 36, 37, 38, 39, 40, 41, 42, 43, 44, 45, 60, 61, 62, 63, 64, 65, 66, 67, 68, 69, 70, 71, 72, 73, 74, 75] (by decide +kernel) (by decide +kernel)
set_option maxRecDepth 20000 in
theorem gX3_trim_X3_layTaken : GoodIn wsX3_trim (wsV RX3 114 RX3 yX3_layTaken wsX3_layTaken) := goodIn_app (goodIn_of _ (by decide +kernel)) ggX3_trim_X3_layTaken
set_option maxRecDepth 20000 in
theorem ggX3_trim_X3_worstOf : GoodIn wsX3_trim wsX3_worstOf := goodIn_r _ [49, 2, 50, 51, 52, 6, 53, 3, 40, 41, 42, 33, 34, 35, 54, 55, 56, 60, 61, 62, 63, 64, 65, 66, 67, 68, 69, 70, 71, 72, 73, 74, 75] (by decide +kernel) (by decide +kernel)
set_option maxRecDepth 20000 in
theorem gX3_trim_X3_worstOf : GoodIn wsX3_trim (wsV RX3 130 RX3 yX3_worstOf wsX3_worstOf) := goodIn_app (goodIn_of _ (by decide +kernel)) ggX3_trim_X3_worstOf
set_option maxRecDepth 20000 in
theorem ggX3_trim_X3_size : GoodIn wsX3_trim wsX3_size := goodIn_r _ [59] (by decide +kernel) (by decide +kernel)
set_option maxRecDepth 20000 in
theorem gX3_trim_X3_size : GoodIn wsX3_trim (va_wsS RX3 36 yX3_size wsX3_size) := goodIn_app (goodIn_of _ (by decide +kernel)) ggX3_trim_X3_size
set_option maxRecDepth 20000 in
theorem ggX3_trim_X3_offOf : GoodIn wsX3_trim wsX3_offOf := goodIn_r _ [53, 2, 3, 40, 41, 42, 33, 34, 6, 35, 60, 61, 62, 63, 64, 65, 66, 67, 68, 69, 70, 71, 72, 73, 74, 75] (by decide +kernel) (by decide +kernel)
set_option maxRecDepth 20000 in
theorem gX3_trim_X3_offOf : GoodIn wsX3_trim (wsV RX3 126 RX3 yX3_offOf wsX3_offOf) := goodIn_app (goodIn_of _ (by decide +kernel)) ggX3_trim_X3_offOf
set_option maxRecDepth 20000 in
theorem ggX3_trim_X3_plain : GoodIn wsX3_trim wsX3_plain := goodIn_r _ [56] (by decide +kernel) (by decide +kernel)
set_option maxRecDepth 20000 in
theorem gX3_trim_X3_plain : GoodIn wsX3_trim (va_wsS RX3 102 yX3_plain wsX3_plain) := goodIn_app (goodIn_of _ (by decide +kernel)) ggX3_trim_X3_plain
theorem dX3_trim_0 : decode cX3_trim 0 = .ok (.iload_n 1, 1) := by decide +kernel
theorem dX3_trim_1 : decode cX3_trim 1 = .ok (.i2l, 1) := by decide +kernel
theorem dX3_trim_2 : decode cX3_trim 2 = .ok (.lconst 0, 1) := by decide +kernel
theorem dX3_trim_3 : decode cX3_trim 3 = .ok (.ldc2_w 154, 3) := by decide +kernel
theorem dX3_trim_6 : decode cX3_trim 6 = .ok (.invokestatic 20, 3) := by decide +kernel
theorem dX3_trim_9 : decode cX3_trim 9 = .ok (.ifCond .ne 6, 3) := by decide +kernel
theorem dX3_trim_12 : decode cX3_trim 12 = .ok (.bipush (-2), 2) := by decide +kernel
theorem dX3_trim_14 : decode cX3_trim 14 = .ok (.ireturn, 1) := by decide +kernel
theorem dX3_trim_15 : decode cX3_trim 15 = .ok (.aload_n 0, 1) := by decide +kernel
theorem dX3_trim_16 : decode cX3_trim 16 = .ok (.invokevirtual 114, 3) := by decide +kernel
theorem dX3_trim_19 : decode cX3_trim 19 = .ok (.ifCond .ne 6, 3) := by decide +kernel
theorem dX3_trim_22 : decode cX3_trim 22 = .ok (.bipush (-5), 2) := by decide +kernel
theorem dX3_trim_24 : decode cX3_trim 24 = .ok (.ireturn, 1) := by decide +kernel
theorem dX3_trim_25 : decode cX3_trim 25 = .ok (.iconst 0, 1) := by decide +kernel
theorem dX3_trim_26 : decode cX3_trim 26 = .ok (.istore_n 2, 1) := by decide +kernel
theorem dX3_trim_27 : decode cX3_trim 27 = .ok (.aload_n 0, 1) := by decide +kernel
theorem dX3_trim_28 : decode cX3_trim 28 = .ok (.aload_n 0, 1) := by decide +kernel
theorem dX3_trim_29 : decode cX3_trim 29 = .ok (.getfield 7, 3) := by decide +kernel
theorem dX3_trim_32 : decode cX3_trim 32 = .ok (.bipush 21, 2) := by decide +kernel
theorem dX3_trim_34 : decode cX3_trim 34 = .ok (.iaload, 1) := by decide +kernel
theorem dX3_trim_35 : decode cX3_trim 35 = .ok (.invokevirtual 130, 3) := by decide +kernel
theorem dX3_trim_38 : decode cX3_trim 38 = .ok (.istore_n 3, 1) := by decide +kernel
theorem dX3_trim_39 : decode cX3_trim 39 = .ok (.iload_n 3, 1) := by decide +kernel
theorem dX3_trim_40 : decode cX3_trim 40 = .ok (.ifCond .lt 81, 3) := by decide +kernel
theorem dX3_trim_43 : decode cX3_trim 43 = .ok (.aload_n 0, 1) := by decide +kernel
theorem dX3_trim_44 : decode cX3_trim 44 = .ok (.getfield 7, 3) := by decide +kernel
theorem dX3_trim_47 : decode cX3_trim 47 = .ok (.bipush 21, 2) := by decide +kernel
theorem dX3_trim_49 : decode cX3_trim 49 = .ok (.iaload, 1) := by decide +kernel
theorem dX3_trim_50 : decode cX3_trim 50 = .ok (.invokestatic 36, 3) := by decide +kernel
theorem dX3_trim_53 : decode cX3_trim 53 = .ok (.iconst 4, 1) := by decide +kernel
theorem dX3_trim_54 : decode cX3_trim 54 = .ok (.if_icmp .le 67, 3) := by decide +kernel
theorem dX3_trim_57 : decode cX3_trim 57 = .ok (.aload_n 0, 1) := by decide +kernel
theorem dX3_trim_58 : decode cX3_trim 58 = .ok (.iload_n 3, 1) := by decide +kernel
theorem dX3_trim_59 : decode cX3_trim 59 = .ok (.invokevirtual 126, 3) := by decide +kernel
theorem dX3_trim_62 : decode cX3_trim 62 = .ok (.invokestatic 102, 3) := by decide +kernel
theorem dX3_trim_65 : decode cX3_trim 65 = .ok (.iload_n 1, 1) := by decide +kernel
theorem dX3_trim_66 : decode cX3_trim 66 = .ok (.i2l, 1) := by decide +kernel
theorem dX3_trim_67 : decode cX3_trim 67 = .ok (.aload_n 0, 1) := by decide +kernel
theorem dX3_trim_68 : decode cX3_trim 68 = .ok (.getfield 80, 3) := by decide +kernel
theorem dX3_trim_71 : decode cX3_trim 71 = .ok (.lmul, 1) := by decide +kernel
theorem dX3_trim_72 : decode cX3_trim 72 = .ok (.lcmp, 1) := by decide +kernel
theorem dX3_trim_73 : decode cX3_trim 73 = .ok (.ifCond .le 48, 3) := by decide +kernel
theorem dX3_trim_76 : decode cX3_trim 76 = .ok (.aload_n 0, 1) := by decide +kernel
theorem dX3_trim_77 : decode cX3_trim 77 = .ok (.getfield 7, 3) := by decide +kernel
theorem dX3_trim_80 : decode cX3_trim 80 = .ok (.bipush 21, 2) := by decide +kernel
theorem dX3_trim_82 : decode cX3_trim 82 = .ok (.dup2, 1) := by decide +kernel
theorem dX3_trim_83 : decode cX3_trim 83 = .ok (.iaload, 1) := by decide +kernel
theorem dX3_trim_84 : decode cX3_trim 84 = .ok (.iconst 1, 1) := by decide +kernel
theorem dX3_trim_85 : decode cX3_trim 85 = .ok (.iload_n 3, 1) := by decide +kernel
theorem dX3_trim_86 : decode cX3_trim 86 = .ok (.ishl, 1) := by decide +kernel
theorem dX3_trim_87 : decode cX3_trim 87 = .ok (.iconst (-1), 1) := by decide +kernel
theorem dX3_trim_88 : decode cX3_trim 88 = .ok (.ixor, 1) := by decide +kernel
theorem dX3_trim_89 : decode cX3_trim 89 = .ok (.iand, 1) := by decide +kernel
theorem dX3_trim_90 : decode cX3_trim 90 = .ok (.iastore, 1) := by decide +kernel
theorem dX3_trim_91 : decode cX3_trim 91 = .ok (.iinc 2 1, 3) := by decide +kernel
theorem dX3_trim_94 : decode cX3_trim 94 = .ok (.aload_n 0, 1) := by decide +kernel
theorem dX3_trim_95 : decode cX3_trim 95 = .ok (.invokevirtual 114, 3) := by decide +kernel
theorem dX3_trim_98 : decode cX3_trim 98 = .ok (.ifCond .eq 17, 3) := by decide +kernel
theorem dX3_trim_101 : decode cX3_trim 101 = .ok (.aload_n 0, 1) := by decide +kernel
theorem dX3_trim_102 : decode cX3_trim 102 = .ok (.aload_n 0, 1) := by decide +kernel
theorem dX3_trim_103 : decode cX3_trim 103 = .ok (.getfield 7, 3) := by decide +kernel
theorem dX3_trim_106 : decode cX3_trim 106 = .ok (.bipush 21, 2) := by decide +kernel
theorem dX3_trim_108 : decode cX3_trim 108 = .ok (.iaload, 1) := by decide +kernel
theorem dX3_trim_109 : decode cX3_trim 109 = .ok (.invokevirtual 130, 3) := by decide +kernel
theorem dX3_trim_112 : decode cX3_trim 112 = .ok (.goto 5, 3) := by decide +kernel
theorem dX3_trim_115 : decode cX3_trim 115 = .ok (.bipush (-6), 2) := by decide +kernel
theorem dX3_trim_117 : decode cX3_trim 117 = .ok (.istore_n 3, 1) := by decide +kernel
theorem dX3_trim_118 : decode cX3_trim 118 = .ok (.goto (-79), 3) := by decide +kernel
theorem dX3_trim_121 : decode cX3_trim 121 = .ok (.iload_n 2, 1) := by decide +kernel
theorem dX3_trim_122 : decode cX3_trim 122 = .ok (.ireturn, 1) := by decide +kernel
set_option maxRecDepth 20000 in
theorem ggX3_isWithin_X3_lay : GoodIn wsX3_isWithin wsX3_lay := goodIn_r _ [6, 1, 7, 8, 9, 5, 10, 11, 12, 13, 14, 15, 16, 17, 18, 19, 20, 21, 22, 23, 24, 25, 26, 27, 28, 29, 30, 31, 32, 33, 34, 35, 36, 37, 49, 50, 51, 52, 53, 54, 55, 56, 57, 58, 59, 60, 61, 62, 63, 64] (by decide +kernel) (by decide +kernel)
set_option maxRecDepth 20000 in
theorem gX3_isWithin_X3_lay : GoodIn wsX3_isWithin (wsV RX3 99 RX3 yX3_lay wsX3_lay) := goodIn_app (goodIn_of _ (by decide +kernel)) ggX3_isWithin_X3_lay
set_option maxRecDepth 20000 in
theorem ggX3_isWithin_X3_worstOf : GoodIn wsX3_isWithin wsX3_worstOf := goodIn_r _ [41, 20, 42, 43, 44, 5, 45, 1, 32, 33, 34, 25, 26, 27, 46, 47, 48, 49, 50, 51, 52, 53, 54, 55, 56, 57, 58, 59, 60, 61, 62, 63, 64] (by decide +kernel) (by decide +kernel)
set_option maxRecDepth 20000 in
theorem gX3_isWithin_X3_worstOf : GoodIn wsX3_isWithin (wsV RX3 130 RX3 yX3_worstOf wsX3_worstOf) := goodIn_app (goodIn_of _ (by decide +kernel)) ggX3_isWithin_X3_worstOf
set_option maxRecDepth 20000 in
theorem ggX3_isWithin_X3_offOf : GoodIn wsX3_isWithin wsX3_offOf := goodIn_r _ [45, 20, 1, 32, 33, 34, 25, 26, 5, 27, 49, 50, 51, 52, 53, 54, 55, 56, 57, 58, 59, 60, 61, 62, 63, 64] (by decide +kernel) (by decide +kernel)
set_option maxRecDepth 20000 in
theorem gX3_isWithin_X3_offOf : GoodIn wsX3_isWithin (wsV RX3 126 RX3 yX3_offOf wsX3_offOf) := goodIn_app (goodIn_of _ (by decide +kernel)) ggX3_isWithin_X3_offOf
set_option maxRecDepth 20000 in
theorem ggX3_isWithin_X3_plain : GoodIn wsX3_isWithin wsX3_plain := goodIn_r _ [48] (by decide +kernel) (by decide +kernel)
set_option maxRecDepth 20000 in
theorem gX3_isWithin_X3_plain : GoodIn wsX3_isWithin (va_wsS RX3 102 yX3_plain wsX3_plain) := goodIn_app (goodIn_of _ (by decide +kernel)) ggX3_isWithin_X3_plain
theorem dX3_isWithin_0 : decode cX3_isWithin 0 = .ok (.aload_n 0, 1) := by decide +kernel
theorem dX3_isWithin_1 : decode cX3_isWithin 1 = .ok (.iload_n 1, 1) := by decide +kernel
theorem dX3_isWithin_2 : decode cX3_isWithin 2 = .ok (.invokevirtual 99, 3) := by decide +kernel
theorem dX3_isWithin_5 : decode cX3_isWithin 5 = .ok (.ifCond .eq 30, 3) := by decide +kernel
theorem dX3_isWithin_8 : decode cX3_isWithin 8 = .ok (.aload_n 0, 1) := by decide +kernel
theorem dX3_isWithin_9 : decode cX3_isWithin 9 = .ok (.aload_n 0, 1) := by decide +kernel
theorem dX3_isWithin_10 : decode cX3_isWithin 10 = .ok (.iload_n 1, 1) := by decide +kernel
theorem dX3_isWithin_11 : decode cX3_isWithin 11 = .ok (.invokevirtual 130, 3) := by decide +kernel
theorem dX3_isWithin_14 : decode cX3_isWithin 14 = .ok (.invokevirtual 126, 3) := by decide +kernel
theorem dX3_isWithin_17 : decode cX3_isWithin 17 = .ok (.invokestatic 102, 3) := by decide +kernel
theorem dX3_isWithin_20 : decode cX3_isWithin 20 = .ok (.iload_n 2, 1) := by decide +kernel
theorem dX3_isWithin_21 : decode cX3_isWithin 21 = .ok (.i2l, 1) := by decide +kernel
theorem dX3_isWithin_22 : decode cX3_isWithin 22 = .ok (.aload_n 0, 1) := by decide +kernel
theorem dX3_isWithin_23 : decode cX3_isWithin 23 = .ok (.getfield 80, 3) := by decide +kernel
theorem dX3_isWithin_26 : decode cX3_isWithin 26 = .ok (.lmul, 1) := by decide +kernel
theorem dX3_isWithin_27 : decode cX3_isWithin 27 = .ok (.lcmp, 1) := by decide +kernel
theorem dX3_isWithin_28 : decode cX3_isWithin 28 = .ok (.ifCond .gt 7, 3) := by decide +kernel
theorem dX3_isWithin_31 : decode cX3_isWithin 31 = .ok (.iconst 1, 1) := by decide +kernel
theorem dX3_isWithin_32 : decode cX3_isWithin 32 = .ok (.goto 4, 3) := by decide +kernel
theorem dX3_isWithin_35 : decode cX3_isWithin 35 = .ok (.iconst 0, 1) := by decide +kernel
theorem dX3_isWithin_36 : decode cX3_isWithin 36 = .ok (.ireturn, 1) := by decide +kernel
set_option maxRecDepth 20000 in
theorem ggX3_fewest_X3_in : GoodIn wsX3_fewest wsX3_in := goodIn_r _ [6] (by decide +kernel) (by decide +kernel)
set_option maxRecDepth 20000 in
theorem gX3_fewest_X3_in : GoodIn wsX3_fewest (va_wsS RX3 20 yX3_in wsX3_in) := goodIn_app (goodIn_of _ (by decide +kernel)) ggX3_fewest_X3_in
set_option maxRecDepth 20000 in
theorem ggX3_fewest_X3_size : GoodIn wsX3_fewest wsX3_size := goodIn_r _ [9] (by decide +kernel) (by decide +kernel)
set_option maxRecDepth 20000 in
theorem gX3_fewest_X3_size : GoodIn wsX3_fewest (va_wsS RX3 36 yX3_size wsX3_size) := goodIn_app (goodIn_of _ (by decide +kernel)) ggX3_fewest_X3_size
set_option maxRecDepth 20000 in
theorem ggX3_fewest_X3_isWithin : GoodIn wsX3_fewest wsX3_isWithin := goodIn_r _ [13, 14, 15, 16, 17, 5, 18, 19, 20, 21, 22, 23, 24, 25, 26, 27, 28, 29, 30, 31, 2, 32, 33, 34, 35, 36, 37, 38, 39, 40, 41, 42, 43, 44, 45, 46, 47, 48, 49, 50, 51, 52, 53, 54, 55, 56, 57, 58, 59, 60, 61, 62, 63, 64, 65, 66, 67, 68, 69, 70, 71, 72, 73, 74, 75] (by decide +kernel) (by decide +kernel)
set_option maxRecDepth 20000 in
theorem gX3_fewest_X3_isWithin : GoodIn wsX3_fewest (wsV RX3 156 RX3 yX3_isWithin wsX3_isWithin) := goodIn_app (goodIn_of _ (by decide +kernel)) ggX3_fewest_X3_isWithin
theorem dX3_fewest_0 : decode cX3_fewest 0 = .ok (.iload_n 1, 1) := by decide +kernel
theorem dX3_fewest_1 : decode cX3_fewest 1 = .ok (.i2l, 1) := by decide +kernel
theorem dX3_fewest_2 : decode cX3_fewest 2 = .ok (.lconst 0, 1) := by decide +kernel
theorem dX3_fewest_3 : decode cX3_fewest 3 = .ok (.ldc2_w 154, 3) := by decide +kernel
theorem dX3_fewest_6 : decode cX3_fewest 6 = .ok (.invokestatic 20, 3) := by decide +kernel
theorem dX3_fewest_9 : decode cX3_fewest 9 = .ok (.ifCond .eq 13, 3) := by decide +kernel
theorem dX3_fewest_12 : decode cX3_fewest 12 = .ok (.iload_n 2, 1) := by decide +kernel
theorem dX3_fewest_13 : decode cX3_fewest 13 = .ok (.i2l, 1) := by decide +kernel
theorem dX3_fewest_14 : decode cX3_fewest 14 = .ok (.lconst 0, 1) := by decide +kernel
theorem dX3_fewest_15 : decode cX3_fewest 15 = .ok (.lconst 1, 1) := by decide +kernel
theorem dX3_fewest_16 : decode cX3_fewest 16 = .ok (.invokestatic 20, 3) := by decide +kernel
theorem dX3_fewest_19 : decode cX3_fewest 19 = .ok (.ifCond .ne 6, 3) := by decide +kernel
theorem dX3_fewest_22 : decode cX3_fewest 22 = .ok (.bipush (-2), 2) := by decide +kernel
theorem dX3_fewest_24 : decode cX3_fewest 24 = .ok (.ireturn, 1) := by decide +kernel
theorem dX3_fewest_25 : decode cX3_fewest 25 = .ok (.bipush (-6), 2) := by decide +kernel
theorem dX3_fewest_27 : decode cX3_fewest 27 = .ok (.istore_n 3, 1) := by decide +kernel
theorem dX3_fewest_28 : decode cX3_fewest 28 = .ok (.iconst 0, 1) := by decide +kernel
theorem dX3_fewest_29 : decode cX3_fewest 29 = .ok (.istore 4, 2) := by decide +kernel
theorem dX3_fewest_31 : decode cX3_fewest 31 = .ok (.iload 4, 2) := by decide +kernel
theorem dX3_fewest_33 : decode cX3_fewest 33 = .ok (.iconst 1, 1) := by decide +kernel
theorem dX3_fewest_34 : decode cX3_fewest 34 = .ok (.aload_n 0, 1) := by decide +kernel
theorem dX3_fewest_35 : decode cX3_fewest 35 = .ok (.getfield 7, 3) := by decide +kernel
theorem dX3_fewest_38 : decode cX3_fewest 38 = .ok (.bipush 20, 2) := by decide +kernel
theorem dX3_fewest_40 : decode cX3_fewest 40 = .ok (.iaload, 1) := by decide +kernel
theorem dX3_fewest_41 : decode cX3_fewest 41 = .ok (.ishl, 1) := by decide +kernel
theorem dX3_fewest_42 : decode cX3_fewest 42 = .ok (.if_icmp .ge 79, 3) := by decide +kernel
theorem dX3_fewest_45 : decode cX3_fewest 45 = .ok (.iload 4, 2) := by decide +kernel
theorem dX3_fewest_47 : decode cX3_fewest 47 = .ok (.aload_n 0, 1) := by decide +kernel
theorem dX3_fewest_48 : decode cX3_fewest 48 = .ok (.getfield 7, 3) := by decide +kernel
theorem dX3_fewest_51 : decode cX3_fewest 51 = .ok (.bipush 21, 2) := by decide +kernel
theorem dX3_fewest_53 : decode cX3_fewest 53 = .ok (.iaload, 1) := by decide +kernel
theorem dX3_fewest_54 : decode cX3_fewest 54 = .ok (.iconst (-1), 1) := by decide +kernel
theorem dX3_fewest_55 : decode cX3_fewest 55 = .ok (.ixor, 1) := by decide +kernel
theorem dX3_fewest_56 : decode cX3_fewest 56 = .ok (.iand, 1) := by decide +kernel
theorem dX3_fewest_57 : decode cX3_fewest 57 = .ok (.ifCond .ne 23, 3) := by decide +kernel
theorem dX3_fewest_60 : decode cX3_fewest 60 = .ok (.iload_n 3, 1) := by decide +kernel
theorem dX3_fewest_61 : decode cX3_fewest 61 = .ok (.ifCond .lt 15, 3) := by decide +kernel
theorem dX3_fewest_64 : decode cX3_fewest 64 = .ok (.iload 4, 2) := by decide +kernel
theorem dX3_fewest_66 : decode cX3_fewest 66 = .ok (.invokestatic 36, 3) := by decide +kernel
theorem dX3_fewest_69 : decode cX3_fewest 69 = .ok (.iload_n 3, 1) := by decide +kernel
theorem dX3_fewest_70 : decode cX3_fewest 70 = .ok (.invokestatic 36, 3) := by decide +kernel
theorem dX3_fewest_73 : decode cX3_fewest 73 = .ok (.if_icmp .ge 7, 3) := by decide +kernel
theorem dX3_fewest_76 : decode cX3_fewest 76 = .ok (.iconst 1, 1) := by decide +kernel
theorem dX3_fewest_77 : decode cX3_fewest 77 = .ok (.goto 4, 3) := by decide +kernel
theorem dX3_fewest_80 : decode cX3_fewest 80 = .ok (.iconst 0, 1) := by decide +kernel
theorem dX3_fewest_81 : decode cX3_fewest 81 = .ok (.istore 5, 2) := by decide +kernel
theorem dX3_fewest_83 : decode cX3_fewest 83 = .ok (.iload 5, 2) := by decide +kernel
theorem dX3_fewest_85 : decode cX3_fewest 85 = .ok (.ifCond .eq 28, 3) := by decide +kernel
theorem dX3_fewest_88 : decode cX3_fewest 88 = .ok (.aload_n 0, 1) := by decide +kernel
theorem dX3_fewest_89 : decode cX3_fewest 89 = .ok (.aload_n 0, 1) := by decide +kernel
theorem dX3_fewest_90 : decode cX3_fewest 90 = .ok (.getfield 7, 3) := by decide +kernel
theorem dX3_fewest_93 : decode cX3_fewest 93 = .ok (.bipush 21, 2) := by decide +kernel
theorem dX3_fewest_95 : decode cX3_fewest 95 = .ok (.iaload, 1) := by decide +kernel
theorem dX3_fewest_96 : decode cX3_fewest 96 = .ok (.iload 4, 2) := by decide +kernel
theorem dX3_fewest_98 : decode cX3_fewest 98 = .ok (.iconst (-1), 1) := by decide +kernel
theorem dX3_fewest_99 : decode cX3_fewest 99 = .ok (.ixor, 1) := by decide +kernel
theorem dX3_fewest_100 : decode cX3_fewest 100 = .ok (.iand, 1) := by decide +kernel
theorem dX3_fewest_101 : decode cX3_fewest 101 = .ok (.iload_n 1, 1) := by decide +kernel
theorem dX3_fewest_102 : decode cX3_fewest 102 = .ok (.invokevirtual 156, 3) := by decide +kernel
theorem dX3_fewest_105 : decode cX3_fewest 105 = .ok (.ifCond .eq 8, 3) := by decide +kernel
theorem dX3_fewest_108 : decode cX3_fewest 108 = .ok (.iload 4, 2) := by decide +kernel
theorem dX3_fewest_110 : decode cX3_fewest 110 = .ok (.goto 4, 3) := by decide +kernel
theorem dX3_fewest_113 : decode cX3_fewest 113 = .ok (.iload_n 3, 1) := by decide +kernel
theorem dX3_fewest_114 : decode cX3_fewest 114 = .ok (.istore_n 3, 1) := by decide +kernel
theorem dX3_fewest_115 : decode cX3_fewest 115 = .ok (.iinc 4 1, 3) := by decide +kernel
theorem dX3_fewest_118 : decode cX3_fewest 118 = .ok (.goto (-87), 3) := by decide +kernel
theorem dX3_fewest_121 : decode cX3_fewest 121 = .ok (.iload_n 3, 1) := by decide +kernel
theorem dX3_fewest_122 : decode cX3_fewest 122 = .ok (.ifCond .lt 8, 3) := by decide +kernel
theorem dX3_fewest_125 : decode cX3_fewest 125 = .ok (.iload_n 2, 1) := by decide +kernel
theorem dX3_fewest_126 : decode cX3_fewest 126 = .ok (.iconst 1, 1) := by decide +kernel
theorem dX3_fewest_127 : decode cX3_fewest 127 = .ok (.if_icmp .ne 7, 3) := by decide +kernel
theorem dX3_fewest_130 : decode cX3_fewest 130 = .ok (.iload_n 3, 1) := by decide +kernel
theorem dX3_fewest_131 : decode cX3_fewest 131 = .ok (.goto 7, 3) := by decide +kernel
theorem dX3_fewest_134 : decode cX3_fewest 134 = .ok (.iload_n 3, 1) := by decide +kernel
theorem dX3_fewest_135 : decode cX3_fewest 135 = .ok (.invokestatic 36, 3) := by decide +kernel
theorem dX3_fewest_138 : decode cX3_fewest 138 = .ok (.ireturn, 1) := by decide +kernel
set_option maxRecDepth 20000 in
theorem ggX3_image_X3_in : GoodIn wsX3_image wsX3_in := goodIn_r _ [7] (by decide +kernel) (by decide +kernel)
set_option maxRecDepth 20000 in
theorem gX3_image_X3_in : GoodIn wsX3_image (va_wsS RX3 20 yX3_in wsX3_in) := goodIn_app (goodIn_of _ (by decide +kernel)) ggX3_image_X3_in
theorem dX3_image_0 : decode cX3_image 0 = .ok (.iload_n 1, 1) := by decide +kernel
theorem dX3_image_1 : decode cX3_image 1 = .ok (.i2l, 1) := by decide +kernel
theorem dX3_image_2 : decode cX3_image 2 = .ok (.lconst 0, 1) := by decide +kernel
theorem dX3_image_3 : decode cX3_image 3 = .ok (.lconst 1, 1) := by decide +kernel
theorem dX3_image_4 : decode cX3_image 4 = .ok (.invokestatic 20, 3) := by decide +kernel
theorem dX3_image_7 : decode cX3_image 7 = .ok (.ifCond .ne 6, 3) := by decide +kernel
theorem dX3_image_10 : decode cX3_image 10 = .ok (.bipush (-2), 2) := by decide +kernel
theorem dX3_image_12 : decode cX3_image 12 = .ok (.ireturn, 1) := by decide +kernel
theorem dX3_image_13 : decode cX3_image 13 = .ok (.iconst 0, 1) := by decide +kernel
theorem dX3_image_14 : decode cX3_image 14 = .ok (.istore_n 2, 1) := by decide +kernel
theorem dX3_image_15 : decode cX3_image 15 = .ok (.iload_n 2, 1) := by decide +kernel
theorem dX3_image_16 : decode cX3_image 16 = .ok (.bipush 23, 2) := by decide +kernel
theorem dX3_image_18 : decode cX3_image 18 = .ok (.if_icmp .ge 26, 3) := by decide +kernel
theorem dX3_image_21 : decode cX3_image 21 = .ok (.aload_n 0, 1) := by decide +kernel
theorem dX3_image_22 : decode cX3_image 22 = .ok (.getfield 13, 3) := by decide +kernel
theorem dX3_image_25 : decode cX3_image 25 = .ok (.bipush 23, 2) := by decide +kernel
theorem dX3_image_27 : decode cX3_image 27 = .ok (.iload_n 1, 1) := by decide +kernel
theorem dX3_image_28 : decode cX3_image 28 = .ok (.imul, 1) := by decide +kernel
theorem dX3_image_29 : decode cX3_image 29 = .ok (.iload_n 2, 1) := by decide +kernel
theorem dX3_image_30 : decode cX3_image 30 = .ok (.iadd, 1) := by decide +kernel
theorem dX3_image_31 : decode cX3_image 31 = .ok (.aload_n 0, 1) := by decide +kernel
theorem dX3_image_32 : decode cX3_image 32 = .ok (.getfield 7, 3) := by decide +kernel
theorem dX3_image_35 : decode cX3_image 35 = .ok (.iload_n 2, 1) := by decide +kernel
theorem dX3_image_36 : decode cX3_image 36 = .ok (.iaload, 1) := by decide +kernel
theorem dX3_image_37 : decode cX3_image 37 = .ok (.iastore, 1) := by decide +kernel
theorem dX3_image_38 : decode cX3_image 38 = .ok (.iinc 2 1, 3) := by decide +kernel
theorem dX3_image_41 : decode cX3_image 41 = .ok (.goto (-26), 3) := by decide +kernel
theorem dX3_image_44 : decode cX3_image 44 = .ok (.aload_n 0, 1) := by decide +kernel
theorem dX3_image_45 : decode cX3_image 45 = .ok (.getfield 16, 3) := by decide +kernel
theorem dX3_image_48 : decode cX3_image 48 = .ok (.iload_n 1, 1) := by decide +kernel
theorem dX3_image_49 : decode cX3_image 49 = .ok (.iconst 1, 1) := by decide +kernel
theorem dX3_image_50 : decode cX3_image 50 = .ok (.bastore, 1) := by decide +kernel
theorem dX3_image_51 : decode cX3_image 51 = .ok (.iconst 1, 1) := by decide +kernel
theorem dX3_image_52 : decode cX3_image 52 = .ok (.ireturn, 1) := by decide +kernel
set_option maxRecDepth 20000 in
theorem ggX3_restore_X3_in : GoodIn wsX3_restore wsX3_in := goodIn_r _ [7] (by decide +kernel) (by decide +kernel)
set_option maxRecDepth 20000 in
theorem gX3_restore_X3_in : GoodIn wsX3_restore (va_wsS RX3 20 yX3_in wsX3_in) := goodIn_app (goodIn_of _ (by decide +kernel)) ggX3_restore_X3_in
theorem dX3_restore_0 : decode cX3_restore 0 = .ok (.iload_n 1, 1) := by decide +kernel
theorem dX3_restore_1 : decode cX3_restore 1 = .ok (.i2l, 1) := by decide +kernel
theorem dX3_restore_2 : decode cX3_restore 2 = .ok (.lconst 0, 1) := by decide +kernel
theorem dX3_restore_3 : decode cX3_restore 3 = .ok (.lconst 1, 1) := by decide +kernel
theorem dX3_restore_4 : decode cX3_restore 4 = .ok (.invokestatic 20, 3) := by decide +kernel
theorem dX3_restore_7 : decode cX3_restore 7 = .ok (.ifCond .ne 6, 3) := by decide +kernel
theorem dX3_restore_10 : decode cX3_restore 10 = .ok (.bipush (-2), 2) := by decide +kernel
theorem dX3_restore_12 : decode cX3_restore 12 = .ok (.ireturn, 1) := by decide +kernel
theorem dX3_restore_13 : decode cX3_restore 13 = .ok (.aload_n 0, 1) := by decide +kernel
theorem dX3_restore_14 : decode cX3_restore 14 = .ok (.getfield 16, 3) := by decide +kernel
theorem dX3_restore_17 : decode cX3_restore 17 = .ok (.iload_n 1, 1) := by decide +kernel
theorem dX3_restore_18 : decode cX3_restore 18 = .ok (.baload, 1) := by decide +kernel
theorem dX3_restore_19 : decode cX3_restore 19 = .ok (.ifCond .ne 6, 3) := by decide +kernel
theorem dX3_restore_22 : decode cX3_restore 22 = .ok (.bipush (-3), 2) := by decide +kernel
theorem dX3_restore_24 : decode cX3_restore 24 = .ok (.ireturn, 1) := by decide +kernel
theorem dX3_restore_25 : decode cX3_restore 25 = .ok (.iconst 0, 1) := by decide +kernel
theorem dX3_restore_26 : decode cX3_restore 26 = .ok (.istore_n 2, 1) := by decide +kernel
theorem dX3_restore_27 : decode cX3_restore 27 = .ok (.iload_n 2, 1) := by decide +kernel
theorem dX3_restore_28 : decode cX3_restore 28 = .ok (.bipush 23, 2) := by decide +kernel
theorem dX3_restore_30 : decode cX3_restore 30 = .ok (.if_icmp .ge 26, 3) := by decide +kernel
theorem dX3_restore_33 : decode cX3_restore 33 = .ok (.aload_n 0, 1) := by decide +kernel
theorem dX3_restore_34 : decode cX3_restore 34 = .ok (.getfield 7, 3) := by decide +kernel
theorem dX3_restore_37 : decode cX3_restore 37 = .ok (.iload_n 2, 1) := by decide +kernel
theorem dX3_restore_38 : decode cX3_restore 38 = .ok (.aload_n 0, 1) := by decide +kernel
theorem dX3_restore_39 : decode cX3_restore 39 = .ok (.getfield 13, 3) := by decide +kernel
theorem dX3_restore_42 : decode cX3_restore 42 = .ok (.bipush 23, 2) := by decide +kernel
theorem dX3_restore_44 : decode cX3_restore 44 = .ok (.iload_n 1, 1) := by decide +kernel
theorem dX3_restore_45 : decode cX3_restore 45 = .ok (.imul, 1) := by decide +kernel
theorem dX3_restore_46 : decode cX3_restore 46 = .ok (.iload_n 2, 1) := by decide +kernel
theorem dX3_restore_47 : decode cX3_restore 47 = .ok (.iadd, 1) := by decide +kernel
theorem dX3_restore_48 : decode cX3_restore 48 = .ok (.iaload, 1) := by decide +kernel
theorem dX3_restore_49 : decode cX3_restore 49 = .ok (.iastore, 1) := by decide +kernel
theorem dX3_restore_50 : decode cX3_restore 50 = .ok (.iinc 2 1, 3) := by decide +kernel
theorem dX3_restore_53 : decode cX3_restore 53 = .ok (.goto (-26), 3) := by decide +kernel
theorem dX3_restore_56 : decode cX3_restore 56 = .ok (.iconst 1, 1) := by decide +kernel
theorem dX3_restore_57 : decode cX3_restore 57 = .ok (.ireturn, 1) := by decide +kernel
set_option maxRecDepth 20000 in
theorem ggX3_count_X3_size : GoodIn wsX3_count wsX3_size := goodIn_r _ [6] (by decide +kernel) (by decide +kernel)
set_option maxRecDepth 20000 in
theorem gX3_count_X3_size : GoodIn wsX3_count (va_wsS RX3 36 yX3_size wsX3_size) := goodIn_app (goodIn_of _ (by decide +kernel)) ggX3_count_X3_size
set_option maxRecDepth 20000 in
theorem ggX3_count_X3_layTaken : GoodIn wsX3_count wsX3_layTaken := goodIn_r _ [10, 1, 11, 12, 13, 5, 14, 15, 16, 17, 18, 19, 20, 21, 22, 23, 24, 25, 26, 27, 28, 29, 30, 31, 32, 33, 34, 35, 36, 37, 38, 39, 40, 41, 42, 43, 44, 45, 46, 47, 48, 49, 50, 51, 52, 53, 54, 55, 56, 57, 58, 59, 60, 61] (by decide +kernel) (by decide +kernel)
set_option maxRecDepth 20000 in
theorem gX3_count_X3_layTaken : GoodIn wsX3_count (wsV RX3 114 RX3 yX3_layTaken wsX3_layTaken) := goodIn_app (goodIn_of _ (by decide +kernel)) ggX3_count_X3_layTaken
theorem dX3_count_0 : decode cX3_count 0 = .ok (.iload_n 1, 1) := by decide +kernel
theorem dX3_count_1 : decode cX3_count 1 = .ok (.tableswitch 117 0 5 #[39, 47, 58, 66, 74, 87], 39) := by decide +kernel
theorem dX3_count_40 : decode cX3_count 40 = .ok (.aload_n 0, 1) := by decide +kernel
theorem dX3_count_41 : decode cX3_count 41 = .ok (.getfield 7, 3) := by decide +kernel
theorem dX3_count_44 : decode cX3_count 44 = .ok (.bipush 20, 2) := by decide +kernel
theorem dX3_count_46 : decode cX3_count 46 = .ok (.iaload, 1) := by decide +kernel
theorem dX3_count_47 : decode cX3_count 47 = .ok (.ireturn, 1) := by decide +kernel
theorem dX3_count_48 : decode cX3_count 48 = .ok (.aload_n 0, 1) := by decide +kernel
theorem dX3_count_49 : decode cX3_count 49 = .ok (.getfield 7, 3) := by decide +kernel
theorem dX3_count_52 : decode cX3_count 52 = .ok (.bipush 21, 2) := by decide +kernel
theorem dX3_count_54 : decode cX3_count 54 = .ok (.iaload, 1) := by decide +kernel
theorem dX3_count_55 : decode cX3_count 55 = .ok (.invokestatic 36, 3) := by decide +kernel
theorem dX3_count_58 : decode cX3_count 58 = .ok (.ireturn, 1) := by decide +kernel
theorem dX3_count_59 : decode cX3_count 59 = .ok (.aload_n 0, 1) := by decide +kernel
theorem dX3_count_60 : decode cX3_count 60 = .ok (.getfield 7, 3) := by decide +kernel
theorem dX3_count_63 : decode cX3_count 63 = .ok (.bipush 21, 2) := by decide +kernel
theorem dX3_count_65 : decode cX3_count 65 = .ok (.iaload, 1) := by decide +kernel
theorem dX3_count_66 : decode cX3_count 66 = .ok (.ireturn, 1) := by decide +kernel
theorem dX3_count_67 : decode cX3_count 67 = .ok (.aload_n 0, 1) := by decide +kernel
theorem dX3_count_68 : decode cX3_count 68 = .ok (.getfield 7, 3) := by decide +kernel
theorem dX3_count_71 : decode cX3_count 71 = .ok (.bipush 22, 2) := by decide +kernel
theorem dX3_count_73 : decode cX3_count 73 = .ok (.iaload, 1) := by decide +kernel
theorem dX3_count_74 : decode cX3_count 74 = .ok (.ireturn, 1) := by decide +kernel
theorem dX3_count_75 : decode cX3_count 75 = .ok (.aload_n 0, 1) := by decide +kernel
theorem dX3_count_76 : decode cX3_count 76 = .ok (.invokevirtual 114, 3) := by decide +kernel
theorem dX3_count_79 : decode cX3_count 79 = .ok (.ifCond .eq 7, 3) := by decide +kernel
theorem dX3_count_82 : decode cX3_count 82 = .ok (.iconst 0, 1) := by decide +kernel
theorem dX3_count_83 : decode cX3_count 83 = .ok (.goto 4, 3) := by decide +kernel
theorem dX3_count_86 : decode cX3_count 86 = .ok (.iconst 1, 1) := by decide +kernel
theorem dX3_count_87 : decode cX3_count 87 = .ok (.ireturn, 1) := by decide +kernel
theorem dX3_count_88 : decode cX3_count 88 = .ok (.aload_n 0, 1) := by decide +kernel
theorem dX3_count_89 : decode cX3_count 89 = .ok (.getfield 16, 3) := by decide +kernel
theorem dX3_count_92 : decode cX3_count 92 = .ok (.iconst 0, 1) := by decide +kernel
theorem dX3_count_93 : decode cX3_count 93 = .ok (.baload, 1) := by decide +kernel
theorem dX3_count_94 : decode cX3_count 94 = .ok (.ifCond .eq 7, 3) := by decide +kernel
theorem dX3_count_97 : decode cX3_count 97 = .ok (.iconst 1, 1) := by decide +kernel
theorem dX3_count_98 : decode cX3_count 98 = .ok (.goto 4, 3) := by decide +kernel
theorem dX3_count_101 : decode cX3_count 101 = .ok (.iconst 0, 1) := by decide +kernel
theorem dX3_count_102 : decode cX3_count 102 = .ok (.aload_n 0, 1) := by decide +kernel
theorem dX3_count_103 : decode cX3_count 103 = .ok (.getfield 16, 3) := by decide +kernel
theorem dX3_count_106 : decode cX3_count 106 = .ok (.iconst 1, 1) := by decide +kernel
theorem dX3_count_107 : decode cX3_count 107 = .ok (.baload, 1) := by decide +kernel
theorem dX3_count_108 : decode cX3_count 108 = .ok (.ifCond .eq 7, 3) := by decide +kernel
theorem dX3_count_111 : decode cX3_count 111 = .ok (.iconst 2, 1) := by decide +kernel
theorem dX3_count_112 : decode cX3_count 112 = .ok (.goto 4, 3) := by decide +kernel
theorem dX3_count_115 : decode cX3_count 115 = .ok (.iconst 0, 1) := by decide +kernel
theorem dX3_count_116 : decode cX3_count 116 = .ok (.iadd, 1) := by decide +kernel
theorem dX3_count_117 : decode cX3_count 117 = .ok (.ireturn, 1) := by decide +kernel
theorem dX3_count_118 : decode cX3_count 118 = .ok (.bipush (-2), 2) := by decide +kernel
theorem dX3_count_120 : decode cX3_count 120 = .ok (.ireturn, 1) := by decide +kernel
theorem dJ6_bitCount_0f7a4_0 : decode cJ6_bitCount_0f7a4 0 = .ok (.iload_n 0, 1) := by decide +kernel
theorem dJ6_bitCount_0f7a4_1 : decode cJ6_bitCount_0f7a4 1 = .ok (.iload_n 0, 1) := by decide +kernel
theorem dJ6_bitCount_0f7a4_2 : decode cJ6_bitCount_0f7a4 2 = .ok (.iconst 1, 1) := by decide +kernel
theorem dJ6_bitCount_0f7a4_3 : decode cJ6_bitCount_0f7a4 3 = .ok (.iushr, 1) := by decide +kernel
theorem dJ6_bitCount_0f7a4_4 : decode cJ6_bitCount_0f7a4 4 = .ok (.ldc_w 265, 3) := by decide +kernel
theorem dJ6_bitCount_0f7a4_7 : decode cJ6_bitCount_0f7a4 7 = .ok (.iand, 1) := by decide +kernel
theorem dJ6_bitCount_0f7a4_8 : decode cJ6_bitCount_0f7a4 8 = .ok (.isub, 1) := by decide +kernel
theorem dJ6_bitCount_0f7a4_9 : decode cJ6_bitCount_0f7a4 9 = .ok (.istore_n 0, 1) := by decide +kernel
theorem dJ6_bitCount_0f7a4_10 : decode cJ6_bitCount_0f7a4 10 = .ok (.iload_n 0, 1) := by decide +kernel
theorem dJ6_bitCount_0f7a4_11 : decode cJ6_bitCount_0f7a4 11 = .ok (.ldc_w 266, 3) := by decide +kernel
theorem dJ6_bitCount_0f7a4_14 : decode cJ6_bitCount_0f7a4 14 = .ok (.iand, 1) := by decide +kernel
theorem dJ6_bitCount_0f7a4_15 : decode cJ6_bitCount_0f7a4 15 = .ok (.iload_n 0, 1) := by decide +kernel
theorem dJ6_bitCount_0f7a4_16 : decode cJ6_bitCount_0f7a4 16 = .ok (.iconst 2, 1) := by decide +kernel
theorem dJ6_bitCount_0f7a4_17 : decode cJ6_bitCount_0f7a4 17 = .ok (.iushr, 1) := by decide +kernel
theorem dJ6_bitCount_0f7a4_18 : decode cJ6_bitCount_0f7a4 18 = .ok (.ldc_w 266, 3) := by decide +kernel
theorem dJ6_bitCount_0f7a4_21 : decode cJ6_bitCount_0f7a4 21 = .ok (.iand, 1) := by decide +kernel
theorem dJ6_bitCount_0f7a4_22 : decode cJ6_bitCount_0f7a4 22 = .ok (.iadd, 1) := by decide +kernel
theorem dJ6_bitCount_0f7a4_23 : decode cJ6_bitCount_0f7a4 23 = .ok (.istore_n 0, 1) := by decide +kernel
theorem dJ6_bitCount_0f7a4_24 : decode cJ6_bitCount_0f7a4 24 = .ok (.iload_n 0, 1) := by decide +kernel
theorem dJ6_bitCount_0f7a4_25 : decode cJ6_bitCount_0f7a4 25 = .ok (.iload_n 0, 1) := by decide +kernel
theorem dJ6_bitCount_0f7a4_26 : decode cJ6_bitCount_0f7a4 26 = .ok (.iconst 4, 1) := by decide +kernel
theorem dJ6_bitCount_0f7a4_27 : decode cJ6_bitCount_0f7a4 27 = .ok (.iushr, 1) := by decide +kernel
theorem dJ6_bitCount_0f7a4_28 : decode cJ6_bitCount_0f7a4 28 = .ok (.iadd, 1) := by decide +kernel
theorem dJ6_bitCount_0f7a4_29 : decode cJ6_bitCount_0f7a4 29 = .ok (.ldc_w 267, 3) := by decide +kernel
theorem dJ6_bitCount_0f7a4_32 : decode cJ6_bitCount_0f7a4 32 = .ok (.iand, 1) := by decide +kernel
theorem dJ6_bitCount_0f7a4_33 : decode cJ6_bitCount_0f7a4 33 = .ok (.istore_n 0, 1) := by decide +kernel
theorem dJ6_bitCount_0f7a4_34 : decode cJ6_bitCount_0f7a4 34 = .ok (.iload_n 0, 1) := by decide +kernel
theorem dJ6_bitCount_0f7a4_35 : decode cJ6_bitCount_0f7a4 35 = .ok (.iload_n 0, 1) := by decide +kernel
theorem dJ6_bitCount_0f7a4_36 : decode cJ6_bitCount_0f7a4 36 = .ok (.bipush 8, 2) := by decide +kernel
theorem dJ6_bitCount_0f7a4_38 : decode cJ6_bitCount_0f7a4 38 = .ok (.iushr, 1) := by decide +kernel
theorem dJ6_bitCount_0f7a4_39 : decode cJ6_bitCount_0f7a4 39 = .ok (.iadd, 1) := by decide +kernel
theorem dJ6_bitCount_0f7a4_40 : decode cJ6_bitCount_0f7a4 40 = .ok (.istore_n 0, 1) := by decide +kernel
theorem dJ6_bitCount_0f7a4_41 : decode cJ6_bitCount_0f7a4 41 = .ok (.iload_n 0, 1) := by decide +kernel
theorem dJ6_bitCount_0f7a4_42 : decode cJ6_bitCount_0f7a4 42 = .ok (.iload_n 0, 1) := by decide +kernel
theorem dJ6_bitCount_0f7a4_43 : decode cJ6_bitCount_0f7a4 43 = .ok (.bipush 16, 2) := by decide +kernel
theorem dJ6_bitCount_0f7a4_45 : decode cJ6_bitCount_0f7a4 45 = .ok (.iushr, 1) := by decide +kernel
theorem dJ6_bitCount_0f7a4_46 : decode cJ6_bitCount_0f7a4 46 = .ok (.iadd, 1) := by decide +kernel
theorem dJ6_bitCount_0f7a4_47 : decode cJ6_bitCount_0f7a4 47 = .ok (.istore_n 0, 1) := by decide +kernel
theorem dJ6_bitCount_0f7a4_48 : decode cJ6_bitCount_0f7a4 48 = .ok (.iload_n 0, 1) := by decide +kernel
theorem dJ6_bitCount_0f7a4_49 : decode cJ6_bitCount_0f7a4 49 = .ok (.bipush 63, 2) := by decide +kernel
theorem dJ6_bitCount_0f7a4_51 : decode cJ6_bitCount_0f7a4 51 = .ok (.iand, 1) := by decide +kernel
theorem dJ6_bitCount_0f7a4_52 : decode cJ6_bitCount_0f7a4 52 = .ok (.ireturn, 1) := by decide +kernel
theorem dJ9_abs_067f4_0 : decode cJ9_abs_067f4 0 = .ok (.lload_n 0, 1) := by decide +kernel
theorem dJ9_abs_067f4_1 : decode cJ9_abs_067f4 1 = .ok (.lconst 0, 1) := by decide +kernel
theorem dJ9_abs_067f4_2 : decode cJ9_abs_067f4 2 = .ok (.lcmp, 1) := by decide +kernel
theorem dJ9_abs_067f4_3 : decode cJ9_abs_067f4 3 = .ok (.ifCond .ge 8, 3) := by decide +kernel
theorem dJ9_abs_067f4_6 : decode cJ9_abs_067f4 6 = .ok (.lload_n 0, 1) := by decide +kernel
theorem dJ9_abs_067f4_7 : decode cJ9_abs_067f4 7 = .ok (.lneg, 1) := by decide +kernel
theorem dJ9_abs_067f4_8 : decode cJ9_abs_067f4 8 = .ok (.goto 4, 3) := by decide +kernel
theorem dJ9_abs_067f4_11 : decode cJ9_abs_067f4 11 = .ok (.lload_n 0, 1) := by decide +kernel
theorem dJ9_abs_067f4_12 : decode cJ9_abs_067f4 12 = .ok (.lreturn, 1) := by decide +kernel
set_option maxRecDepth 20000 in
theorem ggL_law_X2_init : GoodIn wsL_law wsX2_init := goodIn_r _ [8, 9, 10, 11, 12, 13, 14, 15, 16, 17, 18, 19, 20, 21, 22, 23, 24, 25, 26, 27, 28, 29, 30, 31, 32, 33, 34, 35, 36, 469, 470, 471, 472, 473, 447, 448, 449, 450, 451, 452, 474, 475, 476, 477, 478, 479, 480, 481, 482, 483, 484, 485, 486] (by decide +kernel) (by decide +kernel)
set_option maxRecDepth 20000 in
theorem gL_law_X2_init : GoodIn wsL_law (wsX2_init) := ggL_law_X2_init
set_option maxRecDepth 20000 in
theorem ggL_law_X3_init : GoodIn wsL_law wsX3_init := goodIn_r _ [39, 40, 10, 11, 28, 41, 42, 43, 44, 453, 454, 455, 456, 457, 458, 459, 460, 461, 462, 463, 464, 465, 466, 467, 468] (by decide +kernel) (by decide +kernel)
set_option maxRecDepth 20000 in
theorem gL_law_X3_init : GoodIn wsL_law (wsX3_init) := ggL_law_X3_init
set_option maxRecDepth 20000 in
theorem ggL_law_X2_add : GoodIn wsL_law wsX2_add := goodIn_r _ [48, 15, 49, 50, 51, 52, 53, 54, 2, 55, 56, 57, 58, 447, 448, 449, 450, 451, 452, 469, 470, 471, 472, 473] (by decide +kernel) (by decide +kernel)
set_option maxRecDepth 20000 in
theorem gL_law_X2_add : GoodIn wsL_law (wsV RL 13 RX2 yX2_add wsX2_add) := goodIn_app (goodIn_of _ (by decide +kernel)) ggL_law_X2_add
set_option maxRecDepth 20000 in
theorem ggL_law_X3_add : GoodIn wsL_law wsX3_add := goodIn_r _ [62, 41, 63, 64, 5, 65, 66, 67, 68, 69, 70, 453, 454, 455, 456, 457, 458, 459, 460, 461, 462, 463, 464, 465, 466, 467, 468] (by decide +kernel) (by decide +kernel)
set_option maxRecDepth 20000 in
theorem gL_law_X3_add : GoodIn wsL_law (wsV RL 17 RX3 yX3_add wsX3_add) := goodIn_app (goodIn_of _ (by decide +kernel)) ggL_law_X3_add
set_option maxRecDepth 20000 in
theorem ggL_law_X2_clear : GoodIn wsL_law wsX2_clear := goodIn_r _ [74, 15, 49, 52, 447, 448, 449, 450, 451, 452, 469, 470, 471, 472, 473] (by decide +kernel) (by decide +kernel)
set_option maxRecDepth 20000 in
theorem gL_law_X2_clear : GoodIn wsL_law (wsV RL 18 RX2 yX2_clear wsX2_clear) := goodIn_app (goodIn_of _ (by decide +kernel)) ggL_law_X2_clear
set_option maxRecDepth 20000 in
theorem ggL_law_X3_clear : GoodIn wsL_law wsX3_clear := goodIn_r _ [78, 41, 453, 454, 455, 456, 457, 458, 459, 460, 461, 462, 463, 464, 465, 466, 467, 468] (by decide +kernel) (by decide +kernel)
set_option maxRecDepth 20000 in
theorem gL_law_X3_clear : GoodIn wsL_law (wsV RL 22 RX3 yX3_clear wsX3_clear) := goodIn_app (goodIn_of _ (by decide +kernel)) ggL_law_X3_clear
set_option maxRecDepth 20000 in
theorem ggL_law_X2_take : GoodIn wsL_law wsX2_take := goodIn_r _ [82, 15, 52, 83, 84, 85, 2, 86, 49, 56, 57, 58, 87, 88, 89, 90, 91, 92, 93, 447, 448, 449, 450, 451, 452, 469, 470, 471, 472, 473] (by decide +kernel) (by decide +kernel)
set_option maxRecDepth 20000 in
theorem gL_law_X2_take : GoodIn wsL_law (wsV RL 23 RX2 yX2_take wsX2_take) := goodIn_app (goodIn_of _ (by decide +kernel)) ggL_law_X2_take
set_option maxRecDepth 20000 in
theorem ggL_law_X3_take : GoodIn wsL_law wsX3_take := goodIn_r _ [97, 41, 98, 99, 100, 5, 101, 68, 69, 70, 102, 103, 104, 453, 454, 455, 456, 457, 458, 459, 460, 461, 462, 463, 464, 465, 466, 467, 468] (by decide +kernel) (by decide +kernel)
set_option maxRecDepth 20000 in
theorem gL_law_X3_take : GoodIn wsL_law (wsV RL 26 RX3 yX3_take wsX3_take) := goodIn_app (goodIn_of _ (by decide +kernel)) ggL_law_X3_take
set_option maxRecDepth 20000 in
theorem ggL_law_X2_of : GoodIn wsL_law wsX2_of := goodIn_r _ [108, 15, 50, 51, 52, 83, 84, 85, 2, 86, 49, 109, 110, 111, 112, 113, 114, 447, 448, 449, 450, 451, 452, 469, 470, 471, 472, 473] (by decide +kernel) (by decide +kernel)
set_option maxRecDepth 20000 in
theorem gL_law_X2_of : GoodIn wsL_law (wsV RL 27 RX2 yX2_of wsX2_of) := goodIn_app (goodIn_of _ (by decide +kernel)) ggL_law_X2_of
set_option maxRecDepth 20000 in
theorem ggL_law_X3_of : GoodIn wsL_law wsX3_of := goodIn_r _ [118, 41, 98, 99, 100, 5, 101, 68, 69, 70, 119, 120, 121, 453, 454, 455, 456, 457, 458, 459, 460, 461, 462, 463, 464, 465, 466, 467, 468] (by decide +kernel) (by decide +kernel)
set_option maxRecDepth 20000 in
theorem gL_law_X3_of : GoodIn wsL_law (wsV RL 30 RX3 yX3_of wsX3_of) := goodIn_app (goodIn_of _ (by decide +kernel)) ggL_law_X3_of
set_option maxRecDepth 20000 in
theorem ggL_law_X2_round : GoodIn wsL_law wsX2_round := goodIn_r _ [125, 126, 22, 127, 128, 129, 130, 131, 56, 57, 2, 58, 132, 133, 134, 135, 15, 52, 136, 137, 138, 139, 50, 51, 140, 141, 142, 21, 143, 144, 145, 146, 147, 148, 149, 150, 151, 152, 109, 110, 111, 153, 154, 155, 156, 113, 114, 157, 158, 159, 160, 161, 162, 163, 164, 165, 166, 167, 168, 169, 170, 171, 172, 173, 174, 175, 176, 177, 178, 179, 180, 181, 182, 447, 448, 449, 450, 451, 452, 474, 475, 476, 477, 478, 479, 480, 481, 482, 483, 484, 485, 486, 469, 470, 471, 472, 473] (by decide +kernel) (by decide +kernel)
set_option maxRecDepth 20000 in
theorem gL_law_X2_round : GoodIn wsL_law (wsV RL 31 RX2 yX2_round wsX2_round) := goodIn_app (goodIn_of _ (by decide +kernel)) ggL_law_X2_round
set_option maxRecDepth 20000 in
theorem ggL_law_X3_round : GoodIn wsL_law wsX3_round := goodIn_r _ [186, 187, 188, 189, 190, 191, 192, 193, 68, 69, 5, 70, 194, 195, 196, 197, 41, 198, 199, 200, 201, 202, 203, 204, 205, 206, 207, 208, 209, 210, 211, 212, 213, 214, 215, 216, 217, 218, 119, 120, 121, 219, 220, 221, 222, 223, 224, 225, 226, 227, 228, 229, 230, 231, 232, 233, 234, 453, 454, 455, 456, 457, 458, 459, 460, 461, 462, 463, 464, 465, 466, 467, 468] (by decide +kernel) (by decide +kernel)
set_option maxRecDepth 20000 in
theorem gL_law_X3_round : GoodIn wsL_law (wsV RL 35 RX3 yX3_round wsX3_round) := goodIn_app (goodIn_of _ (by decide +kernel)) ggL_law_X3_round
set_option maxRecDepth 20000 in
theorem ggL_law_X2_middle : GoodIn wsL_law wsX2_middle := goodIn_r _ [238, 126, 22, 127, 129, 130, 239, 131, 56, 57, 2, 58, 132, 133, 134, 135, 15, 52, 136, 137, 138, 139, 50, 51, 140, 141, 142, 21, 143, 144, 145, 146, 147, 148, 149, 150, 151, 152, 109, 110, 111, 153, 154, 155, 156, 113, 114, 157, 158, 159, 160, 161, 162, 163, 164, 165, 166, 167, 168, 173, 174, 175, 176, 177, 178, 179, 180, 181, 182, 447, 448, 449, 450, 451, 452, 474, 475, 476, 477, 478, 479, 480, 481, 482, 483, 484, 485, 486, 469, 470, 471, 472, 473] (by decide +kernel) (by decide +kernel)
set_option maxRecDepth 20000 in
theorem gL_law_X2_middle : GoodIn wsL_law (wsV RL 36 RX2 yX2_middle wsX2_middle) := goodIn_app (goodIn_of _ (by decide +kernel)) ggL_law_X2_middle
set_option maxRecDepth 20000 in
theorem ggL_law_X3_middle : GoodIn wsL_law wsX3_middle := goodIn_r _ [243, 188, 189, 190, 191, 187, 193, 68, 69, 5, 70, 194, 195, 196, 197, 41, 198, 199, 200, 201, 202, 203, 204, 205, 206, 207, 208, 209, 210, 211, 212, 213, 214, 215, 216, 217, 218, 119, 120, 121, 219, 220, 221, 222, 192, 223, 224, 225, 226, 227, 228, 229, 230, 231, 232, 233, 234, 453, 454, 455, 456, 457, 458, 459, 460, 461, 462, 463, 464, 465, 466, 467, 468] (by decide +kernel) (by decide +kernel)
set_option maxRecDepth 20000 in
theorem gL_law_X3_middle : GoodIn wsL_law (wsV RL 39 RX3 yX3_middle wsX3_middle) := goodIn_app (goodIn_of _ (by decide +kernel)) ggL_law_X3_middle
set_option maxRecDepth 20000 in
theorem ggL_law_X2_off : GoodIn wsL_law wsX2_off := goodIn_r _ [247, 248, 126, 22, 127, 15, 50, 51, 83, 84, 85, 2, 86, 49, 56, 57, 58, 132, 133, 134, 135, 52, 136, 137, 138, 139, 140, 141, 142, 21, 143, 144, 145, 146, 147, 148, 149, 150, 151, 152, 109, 110, 111, 153, 154, 155, 156, 113, 114, 157, 158, 159, 160, 161, 162, 163, 164, 165, 166, 167, 168, 249, 250, 251, 252, 169, 170, 171, 172, 173, 174, 175, 176, 177, 178, 179, 180, 181, 182, 447, 448, 449, 450, 451, 452, 469, 470, 471, 472, 473, 474, 475, 476, 477, 478, 479, 480, 481, 482, 483, 484, 485, 486] (by decide +kernel) (by decide +kernel)
set_option maxRecDepth 20000 in
theorem gL_law_X2_off : GoodIn wsL_law (wsV RL 40 RX2 yX2_off wsX2_off) := goodIn_app (goodIn_of _ (by decide +kernel)) ggL_law_X2_off
set_option maxRecDepth 20000 in
theorem ggL_law_X3_off : GoodIn wsL_law wsX3_off := goodIn_r _ [256, 257, 188, 189, 193, 98, 99, 100, 5, 101, 41, 68, 69, 70, 194, 195, 196, 197, 198, 199, 200, 201, 202, 203, 204, 205, 206, 207, 208, 209, 210, 211, 212, 213, 214, 215, 216, 217, 218, 119, 120, 121, 219, 220, 221, 222, 190, 191, 192, 223, 224, 225, 258, 259, 260, 261, 226, 227, 228, 229, 230, 231, 232, 233, 234, 453, 454, 455, 456, 457, 458, 459, 460, 461, 462, 463, 464, 465, 466, 467, 468] (by decide +kernel) (by decide +kernel)
set_option maxRecDepth 20000 in
theorem gL_law_X3_off : GoodIn wsL_law (wsV RL 43 RX3 yX3_off wsX3_off) := goodIn_app (goodIn_of _ (by decide +kernel)) ggL_law_X3_off
set_option maxRecDepth 20000 in
theorem ggL_law_X2_worst : GoodIn wsL_law wsX2_worst := goodIn_r _ [265, 22, 56, 57, 2, 58, 132, 133, 134, 135, 15, 52, 136, 137, 138, 139, 50, 51, 140, 141, 142, 21, 143, 144, 145, 146, 147, 148, 149, 150, 151, 152, 109, 110, 111, 153, 154, 155, 156, 113, 114, 157, 158, 159, 160, 161, 162, 163, 164, 165, 166, 167, 168, 266, 267, 268, 269, 270, 271, 272, 273, 274, 176, 177, 178, 179, 83, 84, 85, 86, 49, 249, 250, 251, 252, 169, 170, 171, 172, 447, 448, 449, 450, 451, 452, 469, 470, 471, 472, 473, 474, 475, 476, 477, 478, 479, 480, 481, 482, 483, 484, 485, 486] (by decide +kernel) (by decide +kernel)
set_option maxRecDepth 20000 in
theorem gL_law_X2_worst : GoodIn wsL_law (wsV RL 44 RX2 yX2_worst wsX2_worst) := goodIn_app (goodIn_of _ (by decide +kernel)) ggL_law_X2_worst
set_option maxRecDepth 20000 in
theorem ggL_law_X3_worst : GoodIn wsL_law wsX3_worst := goodIn_r _ [278, 41, 193, 68, 69, 5, 70, 194, 195, 196, 197, 198, 199, 200, 201, 202, 203, 204, 205, 206, 207, 208, 209, 210, 211, 212, 213, 214, 215, 216, 217, 218, 119, 120, 121, 219, 220, 221, 222, 190, 191, 192, 223, 224, 225, 279, 280, 281, 282, 258, 259, 260, 261, 229, 230, 231, 453, 454, 455, 456, 457, 458, 459, 460, 461, 462, 463, 464, 465, 466, 467, 468] (by decide +kernel) (by decide +kernel)
set_option maxRecDepth 20000 in
theorem gL_law_X3_worst : GoodIn wsL_law (wsV RL 48 RX3 yX3_worst wsX3_worst) := goodIn_app (goodIn_of _ (by decide +kernel)) ggL_law_X3_worst
set_option maxRecDepth 20000 in
theorem ggL_law_X2_need : GoodIn wsL_law wsX2_need := goodIn_r _ [286, 15, 287, 56, 57, 2, 58, 447, 448, 449, 450, 451, 452, 469, 470, 471, 472, 473] (by decide +kernel) (by decide +kernel)
set_option maxRecDepth 20000 in
theorem gL_law_X2_need : GoodIn wsL_law (wsV RL 49 RX2 yX2_need wsX2_need) := goodIn_app (goodIn_of _ (by decide +kernel)) ggL_law_X2_need
set_option maxRecDepth 20000 in
theorem ggL_law_X3_need : GoodIn wsL_law wsX3_need := goodIn_r _ [291, 292, 41, 68, 69, 5, 70, 453, 454, 455, 456, 457, 458, 459, 460, 461, 462, 463, 464, 465, 466, 467, 468] (by decide +kernel) (by decide +kernel)
set_option maxRecDepth 20000 in
theorem gL_law_X3_need : GoodIn wsL_law (wsV RL 52 RX3 yX3_need wsX3_need) := goodIn_app (goodIn_of _ (by decide +kernel)) ggL_law_X3_need
set_option maxRecDepth 20000 in
theorem ggL_law_X2_cover : GoodIn wsL_law wsX2_cover := goodIn_r _ [296, 22, 132, 133, 134, 2, 135, 15, 52, 136, 137, 138, 139, 50, 51, 140, 141, 142, 21, 143, 144, 145, 146, 147, 148, 149, 150, 151, 152, 109, 110, 111, 153, 154, 155, 156, 113, 114, 157, 158, 159, 160, 161, 162, 163, 164, 165, 166, 167, 168, 297, 298, 299, 300, 301, 302, 303, 304, 305, 306, 307, 308, 309, 310, 311, 447, 448, 449, 450, 451, 452, 469, 470, 471, 472, 473, 474, 475, 476, 477, 478, 479, 480, 481, 482, 483, 484, 485, 486] (by decide +kernel) (by decide +kernel)
set_option maxRecDepth 20000 in
theorem gL_law_X2_cover : GoodIn wsL_law (wsV RL 53 RX2 yX2_cover wsX2_cover) := goodIn_app (goodIn_of _ (by decide +kernel)) ggL_law_X2_cover
set_option maxRecDepth 20000 in
theorem ggL_law_X3_cover : GoodIn wsL_law wsX3_cover := goodIn_r _ [315, 41, 194, 195, 196, 5, 197, 198, 199, 200, 201, 193, 202, 203, 204, 205, 206, 207, 208, 209, 210, 211, 212, 213, 214, 215, 216, 217, 218, 119, 120, 121, 219, 220, 221, 222, 190, 191, 192, 223, 224, 225, 316, 317, 318, 319, 320, 321, 322, 323, 187, 324, 325, 326, 327, 328, 329, 453, 454, 455, 456, 457, 458, 459, 460, 461, 462, 463, 464, 465, 466, 467, 468] (by decide +kernel) (by decide +kernel)
set_option maxRecDepth 20000 in
theorem gL_law_X3_cover : GoodIn wsL_law (wsV RL 56 RX3 yX3_cover wsX3_cover) := goodIn_app (goodIn_of _ (by decide +kernel)) ggL_law_X3_cover
set_option maxRecDepth 20000 in
theorem ggL_law_X2_poor : GoodIn wsL_law wsX2_poor := goodIn_r _ [333, 132, 133, 134, 2, 135, 22, 15, 52, 136, 137, 138, 139, 50, 51, 140, 141, 142, 21, 143, 144, 145, 146, 147, 148, 149, 150, 151, 152, 109, 110, 111, 153, 154, 155, 156, 113, 114, 157, 158, 159, 160, 161, 162, 163, 164, 334, 335, 336, 337, 287, 165, 166, 167, 168, 297, 298, 299, 300, 301, 302, 303, 304, 305, 306, 307, 308, 309, 310, 311, 87, 88, 89, 90, 91, 92, 93, 447, 448, 449, 450, 451, 452, 469, 470, 471, 472, 473, 474, 475, 476, 477, 478, 479, 480, 481, 482, 483, 484, 485, 486] (by decide +kernel) (by decide +kernel)
set_option maxRecDepth 20000 in
theorem gL_law_X2_poor : GoodIn wsL_law (wsV RL 57 RX2 yX2_poor wsX2_poor) := goodIn_app (goodIn_of _ (by decide +kernel)) ggL_law_X2_poor
set_option maxRecDepth 20000 in
theorem ggL_law_X3_poor : GoodIn wsL_law wsX3_poor := goodIn_r _ [341, 342, 343, 344, 5, 345, 41, 194, 195, 196, 197, 198, 199, 200, 201, 193, 202, 203, 204, 205, 206, 207, 208, 209, 210, 211, 212, 213, 214, 215, 216, 217, 218, 119, 120, 121, 219, 220, 221, 222, 190, 191, 192, 223, 224, 225, 316, 317, 318, 319, 320, 321, 322, 323, 187, 324, 325, 326, 327, 328, 329, 102, 103, 104, 453, 454, 455, 456, 457, 458, 459, 460, 461, 462, 463, 464, 465, 466, 467, 468] (by decide +kernel) (by decide +kernel)
set_option maxRecDepth 20000 in
theorem gL_law_X3_poor : GoodIn wsL_law (wsV RL 60 RX3 yX3_poor wsX3_poor) := goodIn_app (goodIn_of _ (by decide +kernel)) ggL_law_X3_poor
set_option maxRecDepth 20000 in
theorem ggL_law_X2_eighth : GoodIn wsL_law wsX2_eighth := goodIn_r _ [349, 22, 15, 50, 51, 83, 84, 85, 2, 86, 49, 132, 133, 134, 135, 52, 136, 137, 138, 139, 140, 141, 142, 21, 143, 144, 145, 146, 147, 148, 149, 150, 151, 152, 109, 110, 111, 153, 154, 155, 156, 113, 114, 157, 158, 159, 160, 161, 162, 163, 164, 165, 166, 167, 168, 301, 302, 303, 304, 305, 306, 307, 308, 447, 448, 449, 450, 451, 452, 469, 470, 471, 472, 473, 474, 475, 476, 477, 478, 479, 480, 481, 482, 483, 484, 485, 486] (by decide +kernel) (by decide +kernel)
set_option maxRecDepth 20000 in
theorem gL_law_X2_eighth : GoodIn wsL_law (wsV RL 61 RX2 yX2_eighth wsX2_eighth) := goodIn_app (goodIn_of _ (by decide +kernel)) ggL_law_X2_eighth
set_option maxRecDepth 20000 in
theorem ggL_law_X3_eighth : GoodIn wsL_law wsX3_eighth := goodIn_r _ [353, 41, 98, 99, 100, 5, 101, 68, 69, 70, 194, 195, 196, 197, 198, 199, 200, 201, 193, 202, 203, 204, 205, 206, 207, 208, 209, 210, 211, 212, 213, 214, 215, 216, 217, 218, 119, 120, 121, 219, 220, 221, 222, 190, 191, 192, 223, 224, 225, 320, 321, 322, 323, 187, 324, 325, 326, 453, 454, 455, 456, 457, 458, 459, 460, 461, 462, 463, 464, 465, 466, 467, 468] (by decide +kernel) (by decide +kernel)
set_option maxRecDepth 20000 in
theorem gL_law_X3_eighth : GoodIn wsL_law (wsV RL 64 RX3 yX3_eighth wsX3_eighth) := goodIn_app (goodIn_of _ (by decide +kernel)) ggL_law_X3_eighth
set_option maxRecDepth 20000 in
theorem ggL_law_X2_points : GoodIn wsL_law wsX2_points := goodIn_r _ [357, 22, 53, 54, 2, 55, 56, 57, 58, 132, 133, 134, 135, 15, 52, 136, 137, 138, 139, 50, 51, 140, 141, 142, 21, 143, 144, 145, 146, 147, 148, 149, 150, 151, 152, 109, 110, 111, 153, 154, 155, 156, 113, 114, 157, 158, 159, 160, 161, 162, 163, 164, 334, 335, 336, 337, 287, 165, 166, 167, 168, 297, 298, 299, 300, 301, 302, 303, 304, 305, 306, 307, 308, 309, 310, 311, 87, 88, 89, 90, 91, 92, 93, 447, 448, 449, 450, 451, 452, 469, 470, 471, 472, 473, 474, 475, 476, 477, 478, 479, 480, 481, 482, 483, 484, 485, 486] (by decide +kernel) (by decide +kernel)
set_option maxRecDepth 20000 in
theorem gL_law_X2_points : GoodIn wsL_law (wsV RL 65 RX2 yX2_points wsX2_points) := goodIn_app (goodIn_of _ (by decide +kernel)) ggL_law_X2_points
set_option maxRecDepth 20000 in
theorem ggL_law_X3_points : GoodIn wsL_law wsX3_points := goodIn_r _ [361, 63, 64, 5, 65, 66, 67, 68, 69, 70, 342, 343, 344, 345, 41, 194, 195, 196, 197, 198, 199, 200, 201, 193, 202, 203, 204, 205, 206, 207, 208, 209, 210, 211, 212, 213, 214, 215, 216, 217, 218, 119, 120, 121, 219, 220, 221, 222, 190, 191, 192, 223, 224, 225, 316, 317, 318, 319, 320, 321, 322, 323, 187, 324, 325, 326, 327, 328, 329, 102, 103, 104, 453, 454, 455, 456, 457, 458, 459, 460, 461, 462, 463, 464, 465, 466, 467, 468] (by decide +kernel) (by decide +kernel)
set_option maxRecDepth 20000 in
theorem gL_law_X3_points : GoodIn wsL_law (wsV RL 68 RX3 yX3_points wsX3_points) := goodIn_app (goodIn_of _ (by decide +kernel)) ggL_law_X3_points
set_option maxRecDepth 20000 in
theorem ggL_law_X2_helps : GoodIn wsL_law wsX2_helps := goodIn_r _ [365, 15, 49, 52, 287, 22, 87, 88, 89, 90, 91, 92, 93, 136, 137, 138, 2, 139, 50, 51, 140, 141, 142, 21, 143, 144, 145, 146, 147, 148, 149, 150, 151, 152, 109, 110, 111, 153, 154, 155, 156, 113, 114, 366, 367, 368, 369, 23, 370, 371, 372, 373, 157, 158, 159, 160, 161, 162, 163, 164, 165, 166, 167, 168, 301, 302, 303, 304, 305, 306, 307, 308, 309, 310, 311, 297, 298, 299, 300, 447, 448, 449, 450, 451, 452, 469, 470, 471, 472, 473, 474, 475, 476, 477, 478, 479, 480, 481, 482, 483, 484, 485, 486] (by decide +kernel) (by decide +kernel)
set_option maxRecDepth 20000 in
theorem gL_law_X2_helps : GoodIn wsL_law (wsV RL 69 RX2 yX2_helps wsX2_helps) := goodIn_app (goodIn_of _ (by decide +kernel)) ggL_law_X2_helps
set_option maxRecDepth 20000 in
theorem ggL_law_X3_helps : GoodIn wsL_law wsX3_helps := goodIn_r _ [377, 41, 378, 379, 380, 5, 381, 193, 202, 203, 204, 205, 206, 207, 208, 209, 210, 211, 212, 213, 214, 215, 216, 217, 218, 119, 120, 121, 219, 220, 221, 222, 190, 191, 192, 223, 224, 225, 320, 321, 322, 323, 187, 324, 325, 326, 327, 328, 329, 316, 317, 318, 319, 102, 103, 104, 453, 454, 455, 456, 457, 458, 459, 460, 461, 462, 463, 464, 465, 466, 467, 468] (by decide +kernel) (by decide +kernel)
set_option maxRecDepth 20000 in
theorem gL_law_X3_helps : GoodIn wsL_law (wsV RL 72 RX3 yX3_helps wsX3_helps) := goodIn_app (goodIn_of _ (by decide +kernel)) ggL_law_X3_helps
set_option maxRecDepth 20000 in
theorem ggL_law_X2_trim : GoodIn wsL_law wsX2_trim := goodIn_r _ [385, 22, 15, 52, 56, 57, 2, 58, 132, 133, 134, 135, 136, 137, 138, 139, 50, 51, 140, 141, 142, 21, 143, 144, 145, 146, 147, 148, 149, 150, 151, 152, 109, 110, 111, 153, 154, 155, 156, 113, 114, 157, 158, 159, 160, 161, 162, 163, 164, 165, 166, 167, 168, 87, 88, 89, 90, 91, 92, 93, 386, 387, 388, 389, 266, 267, 268, 269, 270, 271, 272, 273, 274, 176, 177, 178, 179, 83, 84, 85, 86, 49, 249, 250, 251, 252, 390, 391, 392, 393, 169, 170, 171, 172, 447, 448, 449, 450, 451, 452, 469, 470, 471, 472, 473, 474, 475, 476, 477, 478, 479, 480, 481, 482, 483, 484, 485, 486] (by decide +kernel) (by decide +kernel)
set_option maxRecDepth 20000 in
theorem gL_law_X2_trim : GoodIn wsL_law (wsV RL 73 RX2 yX2_trim wsX2_trim) := goodIn_app (goodIn_of _ (by decide +kernel)) ggL_law_X2_trim
set_option maxRecDepth 20000 in
theorem ggL_law_X3_trim : GoodIn wsL_law wsX3_trim := goodIn_r _ [397, 398, 41, 193, 68, 69, 5, 70, 194, 195, 196, 197, 198, 199, 200, 201, 202, 203, 204, 205, 206, 207, 208, 209, 210, 211, 212, 213, 214, 215, 216, 217, 218, 119, 120, 121, 219, 220, 221, 222, 190, 191, 192, 223, 224, 225, 279, 280, 281, 282, 258, 259, 260, 261, 229, 230, 231, 102, 103, 104, 453, 454, 455, 456, 457, 458, 459, 460, 461, 462, 463, 464, 465, 466, 467, 468] (by decide +kernel) (by decide +kernel)
set_option maxRecDepth 20000 in
theorem gL_law_X3_trim : GoodIn wsL_law (wsV RL 76 RX3 yX3_trim wsX3_trim) := goodIn_app (goodIn_of _ (by decide +kernel)) ggL_law_X3_trim
set_option maxRecDepth 20000 in
theorem ggL_law_X2_fewest : GoodIn wsL_law wsX2_fewest := goodIn_r _ [402, 15, 52, 56, 57, 2, 58, 87, 88, 89, 90, 91, 92, 93, 403, 404, 405, 406, 407, 408, 409, 410, 23, 136, 137, 138, 139, 50, 51, 140, 141, 142, 21, 143, 144, 145, 146, 147, 148, 149, 150, 151, 152, 109, 110, 111, 153, 154, 155, 156, 113, 114, 157, 158, 159, 160, 161, 162, 163, 164, 165, 166, 167, 168, 390, 391, 392, 393, 271, 272, 273, 274, 176, 177, 178, 179, 83, 84, 85, 86, 49, 249, 250, 251, 252, 169, 170, 171, 172, 447, 448, 449, 450, 451, 452, 469, 470, 471, 472, 473, 474, 475, 476, 477, 478, 479, 480, 481, 482, 483, 484, 485, 486] (by decide +kernel) (by decide +kernel)
set_option maxRecDepth 20000 in
theorem gL_law_X2_fewest : GoodIn wsL_law (wsV RL 77 RX2 yX2_fewest wsX2_fewest) := goodIn_app (goodIn_of _ (by decide +kernel)) ggL_law_X2_fewest
set_option maxRecDepth 20000 in
theorem ggL_law_X3_fewest : GoodIn wsL_law wsX3_fewest := goodIn_r _ [414, 398, 41, 68, 69, 5, 70, 102, 103, 104, 415, 416, 417, 418, 193, 198, 199, 200, 201, 202, 203, 204, 205, 206, 207, 208, 209, 210, 211, 212, 213, 214, 215, 216, 217, 218, 119, 120, 121, 219, 220, 221, 222, 190, 191, 192, 223, 224, 225, 279, 280, 281, 282, 258, 259, 260, 261, 229, 230, 231, 453, 454, 455, 456, 457, 458, 459, 460, 461, 462, 463, 464, 465, 466, 467, 468] (by decide +kernel) (by decide +kernel)
set_option maxRecDepth 20000 in
theorem gL_law_X3_fewest : GoodIn wsL_law (wsV RL 80 RX3 yX3_fewest wsX3_fewest) := goodIn_app (goodIn_of _ (by decide +kernel)) ggL_law_X3_fewest
set_option maxRecDepth 20000 in
theorem ggL_law_X2_image : GoodIn wsL_law wsX2_image := goodIn_r _ [422, 16, 17, 15, 18, 56, 57, 2, 58, 423, 424, 425, 14, 426, 29, 30, 31, 32, 33, 447, 448, 449, 450, 451, 452, 469, 470, 471, 472, 473] (by decide +kernel) (by decide +kernel)
set_option maxRecDepth 20000 in
theorem gL_law_X2_image : GoodIn wsL_law (wsV RL 81 RX2 yX2_image wsX2_image) := goodIn_app (goodIn_of _ (by decide +kernel)) ggL_law_X2_image
set_option maxRecDepth 20000 in
theorem ggL_law_X3_image : GoodIn wsL_law wsX3_image := goodIn_r _ [430, 42, 41, 44, 68, 69, 5, 70, 453, 454, 455, 456, 457, 458, 459, 460, 461, 462, 463, 464, 465, 466, 467, 468] (by decide +kernel) (by decide +kernel)
set_option maxRecDepth 20000 in
theorem gL_law_X3_image : GoodIn wsL_law (wsV RL 84 RX3 yX3_image wsX3_image) := goodIn_app (goodIn_of _ (by decide +kernel)) ggL_law_X3_image
set_option maxRecDepth 20000 in
theorem ggL_law_X2_restore : GoodIn wsL_law wsX2_restore := goodIn_r _ [434, 18, 15, 16, 17, 56, 57, 2, 58, 109, 110, 111, 423, 424, 425, 14, 426, 29, 30, 31, 32, 33, 447, 448, 449, 450, 451, 452, 469, 470, 471, 472, 473] (by decide +kernel) (by decide +kernel)
set_option maxRecDepth 20000 in
theorem gL_law_X2_restore : GoodIn wsL_law (wsV RL 85 RX2 yX2_restore wsX2_restore) := goodIn_app (goodIn_of _ (by decide +kernel)) ggL_law_X2_restore
set_option maxRecDepth 20000 in
theorem ggL_law_X3_restore : GoodIn wsL_law wsX3_restore := goodIn_r _ [438, 44, 41, 42, 68, 69, 5, 70, 453, 454, 455, 456, 457, 458, 459, 460, 461, 462, 463, 464, 465, 466, 467, 468] (by decide +kernel) (by decide +kernel)
set_option maxRecDepth 20000 in
theorem gL_law_X3_restore : GoodIn wsL_law (wsV RL 88 RX3 yX3_restore wsX3_restore) := goodIn_app (goodIn_of _ (by decide +kernel)) ggL_law_X3_restore
set_option maxRecDepth 20000 in
theorem ggL_law_X2_count : GoodIn wsL_law wsX2_count := goodIn_r _ [442, 15, 49, 52, 287, 22, 18, 87, 88, 89, 90, 91, 92, 93, 132, 133, 134, 2, 135, 136, 137, 138, 139, 50, 51, 140, 141, 142, 21, 143, 144, 145, 146, 147, 148, 149, 150, 151, 152, 109, 110, 111, 153, 154, 155, 156, 113, 114, 157, 158, 159, 160, 161, 162, 163, 164, 165, 166, 167, 168, 447, 448, 449, 450, 451, 452, 469, 470, 471, 472, 473, 474, 475, 476, 477, 478, 479, 480, 481, 482, 483, 484, 485, 486] (by decide +kernel) (by decide +kernel)
set_option maxRecDepth 20000 in
theorem gL_law_X2_count : GoodIn wsL_law (wsV RL 89 RX2 yX2_count wsX2_count) := goodIn_app (goodIn_of _ (by decide +kernel)) ggL_law_X2_count
set_option maxRecDepth 20000 in
theorem ggL_law_X3_count : GoodIn wsL_law wsX3_count := goodIn_r _ [446, 41, 44, 102, 103, 5, 104, 194, 195, 196, 197, 198, 199, 200, 201, 193, 202, 203, 204, 205, 206, 207, 208, 209, 210, 211, 212, 213, 214, 215, 216, 217, 218, 119, 120, 121, 219, 220, 221, 222, 190, 191, 192, 223, 224, 225, 453, 454, 455, 456, 457, 458, 459, 460, 461, 462, 463, 464, 465, 466, 467, 468] (by decide +kernel) (by decide +kernel)
set_option maxRecDepth 20000 in
theorem gL_law_X3_count : GoodIn wsL_law (wsV RL 92 RX3 yX3_count wsX3_count) := goodIn_app (goodIn_of _ (by decide +kernel)) ggL_law_X3_count
theorem dL_law_0 : decode cL_law 0 = .ok (.new 7, 3) := by decide +kernel
theorem dL_law_3 : decode cL_law 3 = .ok (.dup, 1) := by decide +kernel
theorem dL_law_4 : decode cL_law 4 = .ok (.invokespecial 9, 3) := by decide +kernel
theorem dL_law_7 : decode cL_law 7 = .ok (.astore_n 1, 1) := by decide +kernel
theorem dL_law_8 : decode cL_law 8 = .ok (.new 10, 3) := by decide +kernel
theorem dL_law_11 : decode cL_law 11 = .ok (.dup, 1) := by decide +kernel
theorem dL_law_12 : decode cL_law 12 = .ok (.invokespecial 12, 3) := by decide +kernel
theorem dL_law_15 : decode cL_law 15 = .ok (.astore_n 2, 1) := by decide +kernel
theorem dL_law_16 : decode cL_law 16 = .ok (.iconst 0, 1) := by decide +kernel
theorem dL_law_17 : decode cL_law 17 = .ok (.istore_n 3, 1) := by decide +kernel
theorem dL_law_18 : decode cL_law 18 = .ok (.iload_n 3, 1) := by decide +kernel
theorem dL_law_19 : decode cL_law 19 = .ok (.aload_n 0, 1) := by decide +kernel
theorem dL_law_20 : decode cL_law 20 = .ok (.arraylength, 1) := by decide +kernel
theorem dL_law_21 : decode cL_law 21 = .ok (.iconst 3, 1) := by decide +kernel
theorem dL_law_22 : decode cL_law 22 = .ok (.isub, 1) := by decide +kernel
theorem dL_law_23 : decode cL_law 23 = .ok (.if_icmp .gt 587, 3) := by decide +kernel
theorem dL_law_26 : decode cL_law 26 = .ok (.aload_n 0, 1) := by decide +kernel
theorem dL_law_27 : decode cL_law 27 = .ok (.iload_n 3, 1) := by decide +kernel
theorem dL_law_28 : decode cL_law 28 = .ok (.iaload, 1) := by decide +kernel
theorem dL_law_29 : decode cL_law 29 = .ok (.bipush 31, 2) := by decide +kernel
theorem dL_law_31 : decode cL_law 31 = .ok (.iand, 1) := by decide +kernel
theorem dL_law_32 : decode cL_law 32 = .ok (.tableswitch 572 0 18 #[92, 125, 138, 171, 204, 238, 272, 306, 329, 352, 365, 378, 401, 434, 447, 470, 503, 526, 549], 92) := by decide +kernel
theorem dL_law_124 : decode cL_law 124 = .ok (.aload_n 1, 1) := by decide +kernel
theorem dL_law_125 : decode cL_law 125 = .ok (.aload_n 0, 1) := by decide +kernel
theorem dL_law_126 : decode cL_law 126 = .ok (.iload_n 3, 1) := by decide +kernel
theorem dL_law_127 : decode cL_law 127 = .ok (.iconst 1, 1) := by decide +kernel
theorem dL_law_128 : decode cL_law 128 = .ok (.iadd, 1) := by decide +kernel
theorem dL_law_129 : decode cL_law 129 = .ok (.iaload, 1) := by decide +kernel
theorem dL_law_130 : decode cL_law 130 = .ok (.aload_n 0, 1) := by decide +kernel
theorem dL_law_131 : decode cL_law 131 = .ok (.iload_n 3, 1) := by decide +kernel
theorem dL_law_132 : decode cL_law 132 = .ok (.iconst 2, 1) := by decide +kernel
theorem dL_law_133 : decode cL_law 133 = .ok (.iadd, 1) := by decide +kernel
theorem dL_law_134 : decode cL_law 134 = .ok (.iaload, 1) := by decide +kernel
theorem dL_law_135 : decode cL_law 135 = .ok (.invokevirtual 13, 3) := by decide +kernel
theorem dL_law_138 : decode cL_law 138 = .ok (.aload_n 2, 1) := by decide +kernel
theorem dL_law_139 : decode cL_law 139 = .ok (.aload_n 0, 1) := by decide +kernel
theorem dL_law_140 : decode cL_law 140 = .ok (.iload_n 3, 1) := by decide +kernel
theorem dL_law_141 : decode cL_law 141 = .ok (.iconst 1, 1) := by decide +kernel
theorem dL_law_142 : decode cL_law 142 = .ok (.iadd, 1) := by decide +kernel
theorem dL_law_143 : decode cL_law 143 = .ok (.iaload, 1) := by decide +kernel
theorem dL_law_144 : decode cL_law 144 = .ok (.aload_n 0, 1) := by decide +kernel
theorem dL_law_145 : decode cL_law 145 = .ok (.iload_n 3, 1) := by decide +kernel
theorem dL_law_146 : decode cL_law 146 = .ok (.iconst 2, 1) := by decide +kernel
theorem dL_law_147 : decode cL_law 147 = .ok (.iadd, 1) := by decide +kernel
theorem dL_law_148 : decode cL_law 148 = .ok (.iaload, 1) := by decide +kernel
theorem dL_law_149 : decode cL_law 149 = .ok (.invokevirtual 17, 3) := by decide +kernel
theorem dL_law_152 : decode cL_law 152 = .ok (.if_icmp .eq 452, 3) := by decide +kernel
theorem dL_law_155 : decode cL_law 155 = .ok (.iconst 0, 1) := by decide +kernel
theorem dL_law_156 : decode cL_law 156 = .ok (.ireturn, 1) := by decide +kernel
theorem dL_law_157 : decode cL_law 157 = .ok (.aload_n 1, 1) := by decide +kernel
theorem dL_law_158 : decode cL_law 158 = .ok (.invokevirtual 18, 3) := by decide +kernel
theorem dL_law_161 : decode cL_law 161 = .ok (.aload_n 2, 1) := by decide +kernel
theorem dL_law_162 : decode cL_law 162 = .ok (.invokevirtual 22, 3) := by decide +kernel
theorem dL_law_165 : decode cL_law 165 = .ok (.if_icmp .eq 439, 3) := by decide +kernel
theorem dL_law_168 : decode cL_law 168 = .ok (.iconst 0, 1) := by decide +kernel
theorem dL_law_169 : decode cL_law 169 = .ok (.ireturn, 1) := by decide +kernel
theorem dL_law_170 : decode cL_law 170 = .ok (.aload_n 1, 1) := by decide +kernel
theorem dL_law_171 : decode cL_law 171 = .ok (.aload_n 0, 1) := by decide +kernel
theorem dL_law_172 : decode cL_law 172 = .ok (.iload_n 3, 1) := by decide +kernel
theorem dL_law_173 : decode cL_law 173 = .ok (.iconst 1, 1) := by decide +kernel
theorem dL_law_174 : decode cL_law 174 = .ok (.iadd, 1) := by decide +kernel
theorem dL_law_175 : decode cL_law 175 = .ok (.iaload, 1) := by decide +kernel
theorem dL_law_176 : decode cL_law 176 = .ok (.aload_n 0, 1) := by decide +kernel
theorem dL_law_177 : decode cL_law 177 = .ok (.iload_n 3, 1) := by decide +kernel
theorem dL_law_178 : decode cL_law 178 = .ok (.iconst 2, 1) := by decide +kernel
theorem dL_law_179 : decode cL_law 179 = .ok (.iadd, 1) := by decide +kernel
theorem dL_law_180 : decode cL_law 180 = .ok (.iaload, 1) := by decide +kernel
theorem dL_law_181 : decode cL_law 181 = .ok (.invokevirtual 23, 3) := by decide +kernel
theorem dL_law_184 : decode cL_law 184 = .ok (.aload_n 2, 1) := by decide +kernel
theorem dL_law_185 : decode cL_law 185 = .ok (.aload_n 0, 1) := by decide +kernel
theorem dL_law_186 : decode cL_law 186 = .ok (.iload_n 3, 1) := by decide +kernel
theorem dL_law_187 : decode cL_law 187 = .ok (.iconst 1, 1) := by decide +kernel
theorem dL_law_188 : decode cL_law 188 = .ok (.iadd, 1) := by decide +kernel
theorem dL_law_189 : decode cL_law 189 = .ok (.iaload, 1) := by decide +kernel
theorem dL_law_190 : decode cL_law 190 = .ok (.aload_n 0, 1) := by decide +kernel
theorem dL_law_191 : decode cL_law 191 = .ok (.iload_n 3, 1) := by decide +kernel
theorem dL_law_192 : decode cL_law 192 = .ok (.iconst 2, 1) := by decide +kernel
theorem dL_law_193 : decode cL_law 193 = .ok (.iadd, 1) := by decide +kernel
theorem dL_law_194 : decode cL_law 194 = .ok (.iaload, 1) := by decide +kernel
theorem dL_law_195 : decode cL_law 195 = .ok (.invokevirtual 26, 3) := by decide +kernel
theorem dL_law_198 : decode cL_law 198 = .ok (.if_icmp .eq 406, 3) := by decide +kernel
theorem dL_law_201 : decode cL_law 201 = .ok (.iconst 0, 1) := by decide +kernel
theorem dL_law_202 : decode cL_law 202 = .ok (.ireturn, 1) := by decide +kernel
theorem dL_law_203 : decode cL_law 203 = .ok (.aload_n 1, 1) := by decide +kernel
theorem dL_law_204 : decode cL_law 204 = .ok (.aload_n 0, 1) := by decide +kernel
theorem dL_law_205 : decode cL_law 205 = .ok (.iload_n 3, 1) := by decide +kernel
theorem dL_law_206 : decode cL_law 206 = .ok (.iconst 1, 1) := by decide +kernel
theorem dL_law_207 : decode cL_law 207 = .ok (.iadd, 1) := by decide +kernel
theorem dL_law_208 : decode cL_law 208 = .ok (.iaload, 1) := by decide +kernel
theorem dL_law_209 : decode cL_law 209 = .ok (.aload_n 0, 1) := by decide +kernel
theorem dL_law_210 : decode cL_law 210 = .ok (.iload_n 3, 1) := by decide +kernel
theorem dL_law_211 : decode cL_law 211 = .ok (.iconst 2, 1) := by decide +kernel
theorem dL_law_212 : decode cL_law 212 = .ok (.iadd, 1) := by decide +kernel
theorem dL_law_213 : decode cL_law 213 = .ok (.iaload, 1) := by decide +kernel
theorem dL_law_214 : decode cL_law 214 = .ok (.invokevirtual 27, 3) := by decide +kernel
theorem dL_law_217 : decode cL_law 217 = .ok (.aload_n 2, 1) := by decide +kernel
theorem dL_law_218 : decode cL_law 218 = .ok (.aload_n 0, 1) := by decide +kernel
theorem dL_law_219 : decode cL_law 219 = .ok (.iload_n 3, 1) := by decide +kernel
theorem dL_law_220 : decode cL_law 220 = .ok (.iconst 1, 1) := by decide +kernel
theorem dL_law_221 : decode cL_law 221 = .ok (.iadd, 1) := by decide +kernel
theorem dL_law_222 : decode cL_law 222 = .ok (.iaload, 1) := by decide +kernel
theorem dL_law_223 : decode cL_law 223 = .ok (.aload_n 0, 1) := by decide +kernel
theorem dL_law_224 : decode cL_law 224 = .ok (.iload_n 3, 1) := by decide +kernel
theorem dL_law_225 : decode cL_law 225 = .ok (.iconst 2, 1) := by decide +kernel
theorem dL_law_226 : decode cL_law 226 = .ok (.iadd, 1) := by decide +kernel
theorem dL_law_227 : decode cL_law 227 = .ok (.iaload, 1) := by decide +kernel
theorem dL_law_228 : decode cL_law 228 = .ok (.invokevirtual 30, 3) := by decide +kernel
theorem dL_law_231 : decode cL_law 231 = .ok (.if_icmp .eq 373, 3) := by decide +kernel
theorem dL_law_234 : decode cL_law 234 = .ok (.iconst 0, 1) := by decide +kernel
theorem dL_law_235 : decode cL_law 235 = .ok (.ireturn, 1) := by decide +kernel
theorem dL_law_236 : decode cL_law 236 = .ok (.aload_n 1, 1) := by decide +kernel
theorem dL_law_237 : decode cL_law 237 = .ok (.aload_n 0, 1) := by decide +kernel
theorem dL_law_238 : decode cL_law 238 = .ok (.iload_n 3, 1) := by decide +kernel
theorem dL_law_239 : decode cL_law 239 = .ok (.iconst 1, 1) := by decide +kernel
theorem dL_law_240 : decode cL_law 240 = .ok (.iadd, 1) := by decide +kernel
theorem dL_law_241 : decode cL_law 241 = .ok (.iaload, 1) := by decide +kernel
theorem dL_law_242 : decode cL_law 242 = .ok (.aload_n 0, 1) := by decide +kernel
theorem dL_law_243 : decode cL_law 243 = .ok (.iload_n 3, 1) := by decide +kernel
theorem dL_law_244 : decode cL_law 244 = .ok (.iconst 2, 1) := by decide +kernel
theorem dL_law_245 : decode cL_law 245 = .ok (.iadd, 1) := by decide +kernel
theorem dL_law_246 : decode cL_law 246 = .ok (.iaload, 1) := by decide +kernel
theorem dL_law_247 : decode cL_law 247 = .ok (.invokevirtual 31, 3) := by decide +kernel
theorem dL_law_250 : decode cL_law 250 = .ok (.aload_n 2, 1) := by decide +kernel
theorem dL_law_251 : decode cL_law 251 = .ok (.aload_n 0, 1) := by decide +kernel
theorem dL_law_252 : decode cL_law 252 = .ok (.iload_n 3, 1) := by decide +kernel
theorem dL_law_253 : decode cL_law 253 = .ok (.iconst 1, 1) := by decide +kernel
theorem dL_law_254 : decode cL_law 254 = .ok (.iadd, 1) := by decide +kernel
theorem dL_law_255 : decode cL_law 255 = .ok (.iaload, 1) := by decide +kernel
theorem dL_law_256 : decode cL_law 256 = .ok (.aload_n 0, 1) := by decide +kernel
theorem dL_law_257 : decode cL_law 257 = .ok (.iload_n 3, 1) := by decide +kernel
theorem dL_law_258 : decode cL_law 258 = .ok (.iconst 2, 1) := by decide +kernel
theorem dL_law_259 : decode cL_law 259 = .ok (.iadd, 1) := by decide +kernel
theorem dL_law_260 : decode cL_law 260 = .ok (.iaload, 1) := by decide +kernel
theorem dL_law_261 : decode cL_law 261 = .ok (.invokevirtual 35, 3) := by decide +kernel
theorem dL_law_264 : decode cL_law 264 = .ok (.lcmp, 1) := by decide +kernel
theorem dL_law_265 : decode cL_law 265 = .ok (.ifCond .eq 339, 3) := by decide +kernel
theorem dL_law_268 : decode cL_law 268 = .ok (.iconst 0, 1) := by decide +kernel
theorem dL_law_269 : decode cL_law 269 = .ok (.ireturn, 1) := by decide +kernel
theorem dL_law_270 : decode cL_law 270 = .ok (.aload_n 1, 1) := by decide +kernel
theorem dL_law_271 : decode cL_law 271 = .ok (.aload_n 0, 1) := by decide +kernel
theorem dL_law_272 : decode cL_law 272 = .ok (.iload_n 3, 1) := by decide +kernel
theorem dL_law_273 : decode cL_law 273 = .ok (.iconst 1, 1) := by decide +kernel
theorem dL_law_274 : decode cL_law 274 = .ok (.iadd, 1) := by decide +kernel
theorem dL_law_275 : decode cL_law 275 = .ok (.iaload, 1) := by decide +kernel
theorem dL_law_276 : decode cL_law 276 = .ok (.aload_n 0, 1) := by decide +kernel
theorem dL_law_277 : decode cL_law 277 = .ok (.iload_n 3, 1) := by decide +kernel
theorem dL_law_278 : decode cL_law 278 = .ok (.iconst 2, 1) := by decide +kernel
theorem dL_law_279 : decode cL_law 279 = .ok (.iadd, 1) := by decide +kernel
theorem dL_law_280 : decode cL_law 280 = .ok (.iaload, 1) := by decide +kernel
theorem dL_law_281 : decode cL_law 281 = .ok (.invokevirtual 36, 3) := by decide +kernel
theorem dL_law_284 : decode cL_law 284 = .ok (.aload_n 2, 1) := by decide +kernel
theorem dL_law_285 : decode cL_law 285 = .ok (.aload_n 0, 1) := by decide +kernel
theorem dL_law_286 : decode cL_law 286 = .ok (.iload_n 3, 1) := by decide +kernel
theorem dL_law_287 : decode cL_law 287 = .ok (.iconst 1, 1) := by decide +kernel
theorem dL_law_288 : decode cL_law 288 = .ok (.iadd, 1) := by decide +kernel
theorem dL_law_289 : decode cL_law 289 = .ok (.iaload, 1) := by decide +kernel
theorem dL_law_290 : decode cL_law 290 = .ok (.aload_n 0, 1) := by decide +kernel
theorem dL_law_291 : decode cL_law 291 = .ok (.iload_n 3, 1) := by decide +kernel
theorem dL_law_292 : decode cL_law 292 = .ok (.iconst 2, 1) := by decide +kernel
theorem dL_law_293 : decode cL_law 293 = .ok (.iadd, 1) := by decide +kernel
theorem dL_law_294 : decode cL_law 294 = .ok (.iaload, 1) := by decide +kernel
theorem dL_law_295 : decode cL_law 295 = .ok (.invokevirtual 39, 3) := by decide +kernel
theorem dL_law_298 : decode cL_law 298 = .ok (.lcmp, 1) := by decide +kernel
theorem dL_law_299 : decode cL_law 299 = .ok (.ifCond .eq 305, 3) := by decide +kernel
theorem dL_law_302 : decode cL_law 302 = .ok (.iconst 0, 1) := by decide +kernel
theorem dL_law_303 : decode cL_law 303 = .ok (.ireturn, 1) := by decide +kernel
theorem dL_law_304 : decode cL_law 304 = .ok (.aload_n 1, 1) := by decide +kernel
theorem dL_law_305 : decode cL_law 305 = .ok (.aload_n 0, 1) := by decide +kernel
theorem dL_law_306 : decode cL_law 306 = .ok (.iload_n 3, 1) := by decide +kernel
theorem dL_law_307 : decode cL_law 307 = .ok (.iconst 1, 1) := by decide +kernel
theorem dL_law_308 : decode cL_law 308 = .ok (.iadd, 1) := by decide +kernel
theorem dL_law_309 : decode cL_law 309 = .ok (.iaload, 1) := by decide +kernel
theorem dL_law_310 : decode cL_law 310 = .ok (.aload_n 0, 1) := by decide +kernel
theorem dL_law_311 : decode cL_law 311 = .ok (.iload_n 3, 1) := by decide +kernel
theorem dL_law_312 : decode cL_law 312 = .ok (.iconst 2, 1) := by decide +kernel
theorem dL_law_313 : decode cL_law 313 = .ok (.iadd, 1) := by decide +kernel
theorem dL_law_314 : decode cL_law 314 = .ok (.iaload, 1) := by decide +kernel
theorem dL_law_315 : decode cL_law 315 = .ok (.invokevirtual 40, 3) := by decide +kernel
theorem dL_law_318 : decode cL_law 318 = .ok (.aload_n 2, 1) := by decide +kernel
theorem dL_law_319 : decode cL_law 319 = .ok (.aload_n 0, 1) := by decide +kernel
theorem dL_law_320 : decode cL_law 320 = .ok (.iload_n 3, 1) := by decide +kernel
theorem dL_law_321 : decode cL_law 321 = .ok (.iconst 1, 1) := by decide +kernel
theorem dL_law_322 : decode cL_law 322 = .ok (.iadd, 1) := by decide +kernel
theorem dL_law_323 : decode cL_law 323 = .ok (.iaload, 1) := by decide +kernel
theorem dL_law_324 : decode cL_law 324 = .ok (.aload_n 0, 1) := by decide +kernel
theorem dL_law_325 : decode cL_law 325 = .ok (.iload_n 3, 1) := by decide +kernel
theorem dL_law_326 : decode cL_law 326 = .ok (.iconst 2, 1) := by decide +kernel
theorem dL_law_327 : decode cL_law 327 = .ok (.iadd, 1) := by decide +kernel
theorem dL_law_328 : decode cL_law 328 = .ok (.iaload, 1) := by decide +kernel
theorem dL_law_329 : decode cL_law 329 = .ok (.invokevirtual 43, 3) := by decide +kernel
theorem dL_law_332 : decode cL_law 332 = .ok (.lcmp, 1) := by decide +kernel
theorem dL_law_333 : decode cL_law 333 = .ok (.ifCond .eq 271, 3) := by decide +kernel
theorem dL_law_336 : decode cL_law 336 = .ok (.iconst 0, 1) := by decide +kernel
theorem dL_law_337 : decode cL_law 337 = .ok (.ireturn, 1) := by decide +kernel
theorem dL_law_338 : decode cL_law 338 = .ok (.aload_n 1, 1) := by decide +kernel
theorem dL_law_339 : decode cL_law 339 = .ok (.aload_n 0, 1) := by decide +kernel
theorem dL_law_340 : decode cL_law 340 = .ok (.iload_n 3, 1) := by decide +kernel
theorem dL_law_341 : decode cL_law 341 = .ok (.iconst 1, 1) := by decide +kernel
theorem dL_law_342 : decode cL_law 342 = .ok (.iadd, 1) := by decide +kernel
theorem dL_law_343 : decode cL_law 343 = .ok (.iaload, 1) := by decide +kernel
theorem dL_law_344 : decode cL_law 344 = .ok (.invokevirtual 44, 3) := by decide +kernel
theorem dL_law_347 : decode cL_law 347 = .ok (.aload_n 2, 1) := by decide +kernel
theorem dL_law_348 : decode cL_law 348 = .ok (.aload_n 0, 1) := by decide +kernel
theorem dL_law_349 : decode cL_law 349 = .ok (.iload_n 3, 1) := by decide +kernel
theorem dL_law_350 : decode cL_law 350 = .ok (.iconst 1, 1) := by decide +kernel
theorem dL_law_351 : decode cL_law 351 = .ok (.iadd, 1) := by decide +kernel
theorem dL_law_352 : decode cL_law 352 = .ok (.iaload, 1) := by decide +kernel
theorem dL_law_353 : decode cL_law 353 = .ok (.invokevirtual 48, 3) := by decide +kernel
theorem dL_law_356 : decode cL_law 356 = .ok (.if_icmp .eq 248, 3) := by decide +kernel
theorem dL_law_359 : decode cL_law 359 = .ok (.iconst 0, 1) := by decide +kernel
theorem dL_law_360 : decode cL_law 360 = .ok (.ireturn, 1) := by decide +kernel
theorem dL_law_361 : decode cL_law 361 = .ok (.aload_n 1, 1) := by decide +kernel
theorem dL_law_362 : decode cL_law 362 = .ok (.aload_n 0, 1) := by decide +kernel
theorem dL_law_363 : decode cL_law 363 = .ok (.iload_n 3, 1) := by decide +kernel
theorem dL_law_364 : decode cL_law 364 = .ok (.iconst 1, 1) := by decide +kernel
theorem dL_law_365 : decode cL_law 365 = .ok (.iadd, 1) := by decide +kernel
theorem dL_law_366 : decode cL_law 366 = .ok (.iaload, 1) := by decide +kernel
theorem dL_law_367 : decode cL_law 367 = .ok (.invokevirtual 49, 3) := by decide +kernel
theorem dL_law_370 : decode cL_law 370 = .ok (.aload_n 2, 1) := by decide +kernel
theorem dL_law_371 : decode cL_law 371 = .ok (.aload_n 0, 1) := by decide +kernel
theorem dL_law_372 : decode cL_law 372 = .ok (.iload_n 3, 1) := by decide +kernel
theorem dL_law_373 : decode cL_law 373 = .ok (.iconst 1, 1) := by decide +kernel
theorem dL_law_374 : decode cL_law 374 = .ok (.iadd, 1) := by decide +kernel
theorem dL_law_375 : decode cL_law 375 = .ok (.iaload, 1) := by decide +kernel
theorem dL_law_376 : decode cL_law 376 = .ok (.invokevirtual 52, 3) := by decide +kernel
theorem dL_law_379 : decode cL_law 379 = .ok (.if_icmp .eq 225, 3) := by decide +kernel
theorem dL_law_382 : decode cL_law 382 = .ok (.iconst 0, 1) := by decide +kernel
theorem dL_law_383 : decode cL_law 383 = .ok (.ireturn, 1) := by decide +kernel
theorem dL_law_384 : decode cL_law 384 = .ok (.aload_n 1, 1) := by decide +kernel
theorem dL_law_385 : decode cL_law 385 = .ok (.invokevirtual 53, 3) := by decide +kernel
theorem dL_law_388 : decode cL_law 388 = .ok (.aload_n 2, 1) := by decide +kernel
theorem dL_law_389 : decode cL_law 389 = .ok (.invokevirtual 56, 3) := by decide +kernel
theorem dL_law_392 : decode cL_law 392 = .ok (.if_icmp .eq 212, 3) := by decide +kernel
theorem dL_law_395 : decode cL_law 395 = .ok (.iconst 0, 1) := by decide +kernel
theorem dL_law_396 : decode cL_law 396 = .ok (.ireturn, 1) := by decide +kernel
theorem dL_law_397 : decode cL_law 397 = .ok (.aload_n 1, 1) := by decide +kernel
theorem dL_law_398 : decode cL_law 398 = .ok (.invokevirtual 57, 3) := by decide +kernel
theorem dL_law_401 : decode cL_law 401 = .ok (.aload_n 2, 1) := by decide +kernel
theorem dL_law_402 : decode cL_law 402 = .ok (.invokevirtual 60, 3) := by decide +kernel
theorem dL_law_405 : decode cL_law 405 = .ok (.if_icmp .eq 199, 3) := by decide +kernel
theorem dL_law_408 : decode cL_law 408 = .ok (.iconst 0, 1) := by decide +kernel
theorem dL_law_409 : decode cL_law 409 = .ok (.ireturn, 1) := by decide +kernel
theorem dL_law_410 : decode cL_law 410 = .ok (.aload_n 1, 1) := by decide +kernel
theorem dL_law_411 : decode cL_law 411 = .ok (.aload_n 0, 1) := by decide +kernel
theorem dL_law_412 : decode cL_law 412 = .ok (.iload_n 3, 1) := by decide +kernel
theorem dL_law_413 : decode cL_law 413 = .ok (.iconst 1, 1) := by decide +kernel
theorem dL_law_414 : decode cL_law 414 = .ok (.iadd, 1) := by decide +kernel
theorem dL_law_415 : decode cL_law 415 = .ok (.iaload, 1) := by decide +kernel
theorem dL_law_416 : decode cL_law 416 = .ok (.invokevirtual 61, 3) := by decide +kernel
theorem dL_law_419 : decode cL_law 419 = .ok (.aload_n 2, 1) := by decide +kernel
theorem dL_law_420 : decode cL_law 420 = .ok (.aload_n 0, 1) := by decide +kernel
theorem dL_law_421 : decode cL_law 421 = .ok (.iload_n 3, 1) := by decide +kernel
theorem dL_law_422 : decode cL_law 422 = .ok (.iconst 1, 1) := by decide +kernel
theorem dL_law_423 : decode cL_law 423 = .ok (.iadd, 1) := by decide +kernel
theorem dL_law_424 : decode cL_law 424 = .ok (.iaload, 1) := by decide +kernel
theorem dL_law_425 : decode cL_law 425 = .ok (.invokevirtual 64, 3) := by decide +kernel
theorem dL_law_428 : decode cL_law 428 = .ok (.if_icmp .eq 176, 3) := by decide +kernel
theorem dL_law_431 : decode cL_law 431 = .ok (.iconst 0, 1) := by decide +kernel
theorem dL_law_432 : decode cL_law 432 = .ok (.ireturn, 1) := by decide +kernel
theorem dL_law_433 : decode cL_law 433 = .ok (.aload_n 1, 1) := by decide +kernel
theorem dL_law_434 : decode cL_law 434 = .ok (.aload_n 0, 1) := by decide +kernel
theorem dL_law_435 : decode cL_law 435 = .ok (.iload_n 3, 1) := by decide +kernel
theorem dL_law_436 : decode cL_law 436 = .ok (.iconst 1, 1) := by decide +kernel
theorem dL_law_437 : decode cL_law 437 = .ok (.iadd, 1) := by decide +kernel
theorem dL_law_438 : decode cL_law 438 = .ok (.iaload, 1) := by decide +kernel
theorem dL_law_439 : decode cL_law 439 = .ok (.aload_n 0, 1) := by decide +kernel
theorem dL_law_440 : decode cL_law 440 = .ok (.iload_n 3, 1) := by decide +kernel
theorem dL_law_441 : decode cL_law 441 = .ok (.iconst 2, 1) := by decide +kernel
theorem dL_law_442 : decode cL_law 442 = .ok (.iadd, 1) := by decide +kernel
theorem dL_law_443 : decode cL_law 443 = .ok (.iaload, 1) := by decide +kernel
theorem dL_law_444 : decode cL_law 444 = .ok (.invokevirtual 65, 3) := by decide +kernel
theorem dL_law_447 : decode cL_law 447 = .ok (.aload_n 2, 1) := by decide +kernel
theorem dL_law_448 : decode cL_law 448 = .ok (.aload_n 0, 1) := by decide +kernel
theorem dL_law_449 : decode cL_law 449 = .ok (.iload_n 3, 1) := by decide +kernel
theorem dL_law_450 : decode cL_law 450 = .ok (.iconst 1, 1) := by decide +kernel
theorem dL_law_451 : decode cL_law 451 = .ok (.iadd, 1) := by decide +kernel
theorem dL_law_452 : decode cL_law 452 = .ok (.iaload, 1) := by decide +kernel
theorem dL_law_453 : decode cL_law 453 = .ok (.aload_n 0, 1) := by decide +kernel
theorem dL_law_454 : decode cL_law 454 = .ok (.iload_n 3, 1) := by decide +kernel
theorem dL_law_455 : decode cL_law 455 = .ok (.iconst 2, 1) := by decide +kernel
theorem dL_law_456 : decode cL_law 456 = .ok (.iadd, 1) := by decide +kernel
theorem dL_law_457 : decode cL_law 457 = .ok (.iaload, 1) := by decide +kernel
theorem dL_law_458 : decode cL_law 458 = .ok (.invokevirtual 68, 3) := by decide +kernel
theorem dL_law_461 : decode cL_law 461 = .ok (.if_icmp .eq 143, 3) := by decide +kernel
theorem dL_law_464 : decode cL_law 464 = .ok (.iconst 0, 1) := by decide +kernel
theorem dL_law_465 : decode cL_law 465 = .ok (.ireturn, 1) := by decide +kernel
theorem dL_law_466 : decode cL_law 466 = .ok (.aload_n 1, 1) := by decide +kernel
theorem dL_law_467 : decode cL_law 467 = .ok (.invokevirtual 69, 3) := by decide +kernel
theorem dL_law_470 : decode cL_law 470 = .ok (.aload_n 2, 1) := by decide +kernel
theorem dL_law_471 : decode cL_law 471 = .ok (.invokevirtual 72, 3) := by decide +kernel
theorem dL_law_474 : decode cL_law 474 = .ok (.if_icmp .eq 130, 3) := by decide +kernel
theorem dL_law_477 : decode cL_law 477 = .ok (.iconst 0, 1) := by decide +kernel
theorem dL_law_478 : decode cL_law 478 = .ok (.ireturn, 1) := by decide +kernel
theorem dL_law_479 : decode cL_law 479 = .ok (.aload_n 1, 1) := by decide +kernel
theorem dL_law_480 : decode cL_law 480 = .ok (.aload_n 0, 1) := by decide +kernel
theorem dL_law_481 : decode cL_law 481 = .ok (.iload_n 3, 1) := by decide +kernel
theorem dL_law_482 : decode cL_law 482 = .ok (.iconst 1, 1) := by decide +kernel
theorem dL_law_483 : decode cL_law 483 = .ok (.iadd, 1) := by decide +kernel
theorem dL_law_484 : decode cL_law 484 = .ok (.iaload, 1) := by decide +kernel
theorem dL_law_485 : decode cL_law 485 = .ok (.invokevirtual 73, 3) := by decide +kernel
theorem dL_law_488 : decode cL_law 488 = .ok (.aload_n 2, 1) := by decide +kernel
theorem dL_law_489 : decode cL_law 489 = .ok (.aload_n 0, 1) := by decide +kernel
theorem dL_law_490 : decode cL_law 490 = .ok (.iload_n 3, 1) := by decide +kernel
theorem dL_law_491 : decode cL_law 491 = .ok (.iconst 1, 1) := by decide +kernel
theorem dL_law_492 : decode cL_law 492 = .ok (.iadd, 1) := by decide +kernel
theorem dL_law_493 : decode cL_law 493 = .ok (.iaload, 1) := by decide +kernel
theorem dL_law_494 : decode cL_law 494 = .ok (.invokevirtual 76, 3) := by decide +kernel
theorem dL_law_497 : decode cL_law 497 = .ok (.if_icmp .eq 107, 3) := by decide +kernel
theorem dL_law_500 : decode cL_law 500 = .ok (.iconst 0, 1) := by decide +kernel
theorem dL_law_501 : decode cL_law 501 = .ok (.ireturn, 1) := by decide +kernel
theorem dL_law_502 : decode cL_law 502 = .ok (.aload_n 1, 1) := by decide +kernel
theorem dL_law_503 : decode cL_law 503 = .ok (.aload_n 0, 1) := by decide +kernel
theorem dL_law_504 : decode cL_law 504 = .ok (.iload_n 3, 1) := by decide +kernel
theorem dL_law_505 : decode cL_law 505 = .ok (.iconst 1, 1) := by decide +kernel
theorem dL_law_506 : decode cL_law 506 = .ok (.iadd, 1) := by decide +kernel
theorem dL_law_507 : decode cL_law 507 = .ok (.iaload, 1) := by decide +kernel
theorem dL_law_508 : decode cL_law 508 = .ok (.aload_n 0, 1) := by decide +kernel
theorem dL_law_509 : decode cL_law 509 = .ok (.iload_n 3, 1) := by decide +kernel
theorem dL_law_510 : decode cL_law 510 = .ok (.iconst 2, 1) := by decide +kernel
theorem dL_law_511 : decode cL_law 511 = .ok (.iadd, 1) := by decide +kernel
theorem dL_law_512 : decode cL_law 512 = .ok (.iaload, 1) := by decide +kernel
theorem dL_law_513 : decode cL_law 513 = .ok (.invokevirtual 77, 3) := by decide +kernel
theorem dL_law_516 : decode cL_law 516 = .ok (.aload_n 2, 1) := by decide +kernel
theorem dL_law_517 : decode cL_law 517 = .ok (.aload_n 0, 1) := by decide +kernel
theorem dL_law_518 : decode cL_law 518 = .ok (.iload_n 3, 1) := by decide +kernel
theorem dL_law_519 : decode cL_law 519 = .ok (.iconst 1, 1) := by decide +kernel
theorem dL_law_520 : decode cL_law 520 = .ok (.iadd, 1) := by decide +kernel
theorem dL_law_521 : decode cL_law 521 = .ok (.iaload, 1) := by decide +kernel
theorem dL_law_522 : decode cL_law 522 = .ok (.aload_n 0, 1) := by decide +kernel
theorem dL_law_523 : decode cL_law 523 = .ok (.iload_n 3, 1) := by decide +kernel
theorem dL_law_524 : decode cL_law 524 = .ok (.iconst 2, 1) := by decide +kernel
theorem dL_law_525 : decode cL_law 525 = .ok (.iadd, 1) := by decide +kernel
theorem dL_law_526 : decode cL_law 526 = .ok (.iaload, 1) := by decide +kernel
theorem dL_law_527 : decode cL_law 527 = .ok (.invokevirtual 80, 3) := by decide +kernel
theorem dL_law_530 : decode cL_law 530 = .ok (.if_icmp .eq 74, 3) := by decide +kernel
theorem dL_law_533 : decode cL_law 533 = .ok (.iconst 0, 1) := by decide +kernel
theorem dL_law_534 : decode cL_law 534 = .ok (.ireturn, 1) := by decide +kernel
theorem dL_law_535 : decode cL_law 535 = .ok (.aload_n 1, 1) := by decide +kernel
theorem dL_law_536 : decode cL_law 536 = .ok (.aload_n 0, 1) := by decide +kernel
theorem dL_law_537 : decode cL_law 537 = .ok (.iload_n 3, 1) := by decide +kernel
theorem dL_law_538 : decode cL_law 538 = .ok (.iconst 1, 1) := by decide +kernel
theorem dL_law_539 : decode cL_law 539 = .ok (.iadd, 1) := by decide +kernel
theorem dL_law_540 : decode cL_law 540 = .ok (.iaload, 1) := by decide +kernel
theorem dL_law_541 : decode cL_law 541 = .ok (.invokevirtual 81, 3) := by decide +kernel
theorem dL_law_544 : decode cL_law 544 = .ok (.aload_n 2, 1) := by decide +kernel
theorem dL_law_545 : decode cL_law 545 = .ok (.aload_n 0, 1) := by decide +kernel
theorem dL_law_546 : decode cL_law 546 = .ok (.iload_n 3, 1) := by decide +kernel
theorem dL_law_547 : decode cL_law 547 = .ok (.iconst 1, 1) := by decide +kernel
theorem dL_law_548 : decode cL_law 548 = .ok (.iadd, 1) := by decide +kernel
theorem dL_law_549 : decode cL_law 549 = .ok (.iaload, 1) := by decide +kernel
theorem dL_law_550 : decode cL_law 550 = .ok (.invokevirtual 84, 3) := by decide +kernel
theorem dL_law_553 : decode cL_law 553 = .ok (.if_icmp .eq 51, 3) := by decide +kernel
theorem dL_law_556 : decode cL_law 556 = .ok (.iconst 0, 1) := by decide +kernel
theorem dL_law_557 : decode cL_law 557 = .ok (.ireturn, 1) := by decide +kernel
theorem dL_law_558 : decode cL_law 558 = .ok (.aload_n 1, 1) := by decide +kernel
theorem dL_law_559 : decode cL_law 559 = .ok (.aload_n 0, 1) := by decide +kernel
theorem dL_law_560 : decode cL_law 560 = .ok (.iload_n 3, 1) := by decide +kernel
theorem dL_law_561 : decode cL_law 561 = .ok (.iconst 1, 1) := by decide +kernel
theorem dL_law_562 : decode cL_law 562 = .ok (.iadd, 1) := by decide +kernel
theorem dL_law_563 : decode cL_law 563 = .ok (.iaload, 1) := by decide +kernel
theorem dL_law_564 : decode cL_law 564 = .ok (.invokevirtual 85, 3) := by decide +kernel
theorem dL_law_567 : decode cL_law 567 = .ok (.aload_n 2, 1) := by decide +kernel
theorem dL_law_568 : decode cL_law 568 = .ok (.aload_n 0, 1) := by decide +kernel
theorem dL_law_569 : decode cL_law 569 = .ok (.iload_n 3, 1) := by decide +kernel
theorem dL_law_570 : decode cL_law 570 = .ok (.iconst 1, 1) := by decide +kernel
theorem dL_law_571 : decode cL_law 571 = .ok (.iadd, 1) := by decide +kernel
theorem dL_law_572 : decode cL_law 572 = .ok (.iaload, 1) := by decide +kernel
theorem dL_law_573 : decode cL_law 573 = .ok (.invokevirtual 88, 3) := by decide +kernel
theorem dL_law_576 : decode cL_law 576 = .ok (.if_icmp .eq 28, 3) := by decide +kernel
theorem dL_law_579 : decode cL_law 579 = .ok (.iconst 0, 1) := by decide +kernel
theorem dL_law_580 : decode cL_law 580 = .ok (.ireturn, 1) := by decide +kernel
theorem dL_law_581 : decode cL_law 581 = .ok (.aload_n 1, 1) := by decide +kernel
theorem dL_law_582 : decode cL_law 582 = .ok (.aload_n 0, 1) := by decide +kernel
theorem dL_law_583 : decode cL_law 583 = .ok (.iload_n 3, 1) := by decide +kernel
theorem dL_law_584 : decode cL_law 584 = .ok (.iconst 1, 1) := by decide +kernel
theorem dL_law_585 : decode cL_law 585 = .ok (.iadd, 1) := by decide +kernel
theorem dL_law_586 : decode cL_law 586 = .ok (.iaload, 1) := by decide +kernel
theorem dL_law_587 : decode cL_law 587 = .ok (.invokevirtual 89, 3) := by decide +kernel
theorem dL_law_590 : decode cL_law 590 = .ok (.aload_n 2, 1) := by decide +kernel
theorem dL_law_591 : decode cL_law 591 = .ok (.aload_n 0, 1) := by decide +kernel
theorem dL_law_592 : decode cL_law 592 = .ok (.iload_n 3, 1) := by decide +kernel
theorem dL_law_593 : decode cL_law 593 = .ok (.iconst 1, 1) := by decide +kernel
theorem dL_law_594 : decode cL_law 594 = .ok (.iadd, 1) := by decide +kernel
theorem dL_law_595 : decode cL_law 595 = .ok (.iaload, 1) := by decide +kernel
theorem dL_law_596 : decode cL_law 596 = .ok (.invokevirtual 92, 3) := by decide +kernel
theorem dL_law_599 : decode cL_law 599 = .ok (.if_icmp .eq 5, 3) := by decide +kernel
theorem dL_law_602 : decode cL_law 602 = .ok (.iconst 0, 1) := by decide +kernel
theorem dL_law_603 : decode cL_law 603 = .ok (.ireturn, 1) := by decide +kernel
theorem dL_law_604 : decode cL_law 604 = .ok (.iinc 3 3, 3) := by decide +kernel
theorem dL_law_607 : decode cL_law 607 = .ok (.goto (-589), 3) := by decide +kernel
theorem dL_law_610 : decode cL_law 610 = .ok (.iconst 1, 1) := by decide +kernel
theorem dL_law_611 : decode cL_law 611 = .ok (.ireturn, 1) := by decide +kernel
