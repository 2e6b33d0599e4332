theorem dX0_init_0 : decode cX0_init 0 = .ok (.aload_n 0, 1) := by decide +kernel
theorem dX0_init_1 : decode cX0_init 1 = .ok (.invokespecial 3, 3) := by decide +kernel
theorem dX0_init_4 : decode cX0_init 4 = .ok (.return_, 1) := by decide +kernel
theorem dX0_empty_0 : decode cX0_empty 0 = .ok (.aload_n 0, 1) := by decide +kernel
theorem dX0_empty_1 : decode cX0_empty 1 = .ok (.lconst 0, 1) := by decide +kernel
theorem dX0_empty_2 : decode cX0_empty 2 = .ok (.putfield 9, 3) := by decide +kernel
theorem dX0_empty_5 : decode cX0_empty 5 = .ok (.aload_n 0, 1) := by decide +kernel
theorem dX0_empty_6 : decode cX0_empty 6 = .ok (.lconst 0, 1) := by decide +kernel
theorem dX0_empty_7 : decode cX0_empty 7 = .ok (.putfield 15, 3) := by decide +kernel
theorem dX0_empty_10 : decode cX0_empty 10 = .ok (.aload_n 0, 1) := by decide +kernel
theorem dX0_empty_11 : decode cX0_empty 11 = .ok (.lconst 0, 1) := by decide +kernel
theorem dX0_empty_12 : decode cX0_empty 12 = .ok (.putfield 18, 3) := by decide +kernel
theorem dX0_empty_15 : decode cX0_empty 15 = .ok (.aload_n 0, 1) := by decide +kernel
theorem dX0_empty_16 : decode cX0_empty 16 = .ok (.lconst 0, 1) := by decide +kernel
theorem dX0_empty_17 : decode cX0_empty 17 = .ok (.putfield 21, 3) := by decide +kernel
theorem dX0_empty_20 : decode cX0_empty 20 = .ok (.aload_n 0, 1) := by decide +kernel
theorem dX0_empty_21 : decode cX0_empty 21 = .ok (.lconst 0, 1) := by decide +kernel
theorem dX0_empty_22 : decode cX0_empty 22 = .ok (.putfield 24, 3) := by decide +kernel
theorem dX0_empty_25 : decode cX0_empty 25 = .ok (.aload_n 0, 1) := by decide +kernel
theorem dX0_empty_26 : decode cX0_empty 26 = .ok (.lconst 0, 1) := by decide +kernel
theorem dX0_empty_27 : decode cX0_empty 27 = .ok (.putfield 27, 3) := by decide +kernel
theorem dX0_empty_30 : decode cX0_empty 30 = .ok (.aload_n 0, 1) := by decide +kernel
theorem dX0_empty_31 : decode cX0_empty 31 = .ok (.lconst 0, 1) := by decide +kernel
theorem dX0_empty_32 : decode cX0_empty 32 = .ok (.putfield 30, 3) := by decide +kernel
theorem dX0_empty_35 : decode cX0_empty 35 = .ok (.aload_n 0, 1) := by decide +kernel
theorem dX0_empty_36 : decode cX0_empty 36 = .ok (.lconst 0, 1) := by decide +kernel
theorem dX0_empty_37 : decode cX0_empty 37 = .ok (.putfield 33, 3) := by decide +kernel
theorem dX0_empty_40 : decode cX0_empty 40 = .ok (.aload_n 0, 1) := by decide +kernel
theorem dX0_empty_41 : decode cX0_empty 41 = .ok (.lconst 0, 1) := by decide +kernel
theorem dX0_empty_42 : decode cX0_empty 42 = .ok (.putfield 36, 3) := by decide +kernel
theorem dX0_empty_45 : decode cX0_empty 45 = .ok (.return_, 1) := by decide +kernel
theorem dX0_startFrom_0 : decode cX0_startFrom 0 = .ok (.aload_n 0, 1) := by decide +kernel
theorem dX0_startFrom_1 : decode cX0_startFrom 1 = .ok (.aload_n 1, 1) := by decide +kernel
theorem dX0_startFrom_2 : decode cX0_startFrom 2 = .ok (.getfield 9, 3) := by decide +kernel
theorem dX0_startFrom_5 : decode cX0_startFrom 5 = .ok (.putfield 9, 3) := by decide +kernel
theorem dX0_startFrom_8 : decode cX0_startFrom 8 = .ok (.aload_n 0, 1) := by decide +kernel
theorem dX0_startFrom_9 : decode cX0_startFrom 9 = .ok (.aload_n 1, 1) := by decide +kernel
theorem dX0_startFrom_10 : decode cX0_startFrom 10 = .ok (.getfield 15, 3) := by decide +kernel
theorem dX0_startFrom_13 : decode cX0_startFrom 13 = .ok (.putfield 15, 3) := by decide +kernel
theorem dX0_startFrom_16 : decode cX0_startFrom 16 = .ok (.aload_n 0, 1) := by decide +kernel
theorem dX0_startFrom_17 : decode cX0_startFrom 17 = .ok (.aload_n 1, 1) := by decide +kernel
theorem dX0_startFrom_18 : decode cX0_startFrom 18 = .ok (.getfield 18, 3) := by decide +kernel
theorem dX0_startFrom_21 : decode cX0_startFrom 21 = .ok (.putfield 18, 3) := by decide +kernel
theorem dX0_startFrom_24 : decode cX0_startFrom 24 = .ok (.aload_n 0, 1) := by decide +kernel
theorem dX0_startFrom_25 : decode cX0_startFrom 25 = .ok (.aload_n 1, 1) := by decide +kernel
theorem dX0_startFrom_26 : decode cX0_startFrom 26 = .ok (.getfield 21, 3) := by decide +kernel
theorem dX0_startFrom_29 : decode cX0_startFrom 29 = .ok (.putfield 21, 3) := by decide +kernel
theorem dX0_startFrom_32 : decode cX0_startFrom 32 = .ok (.aload_n 0, 1) := by decide +kernel
theorem dX0_startFrom_33 : decode cX0_startFrom 33 = .ok (.aload_n 1, 1) := by decide +kernel
theorem dX0_startFrom_34 : decode cX0_startFrom 34 = .ok (.getfield 24, 3) := by decide +kernel
theorem dX0_startFrom_37 : decode cX0_startFrom 37 = .ok (.putfield 24, 3) := by decide +kernel
theorem dX0_startFrom_40 : decode cX0_startFrom 40 = .ok (.aload_n 0, 1) := by decide +kernel
theorem dX0_startFrom_41 : decode cX0_startFrom 41 = .ok (.aload_n 1, 1) := by decide +kernel
theorem dX0_startFrom_42 : decode cX0_startFrom 42 = .ok (.getfield 27, 3) := by decide +kernel
theorem dX0_startFrom_45 : decode cX0_startFrom 45 = .ok (.putfield 27, 3) := by decide +kernel
theorem dX0_startFrom_48 : decode cX0_startFrom 48 = .ok (.aload_n 0, 1) := by decide +kernel
theorem dX0_startFrom_49 : decode cX0_startFrom 49 = .ok (.aload_n 1, 1) := by decide +kernel
theorem dX0_startFrom_50 : decode cX0_startFrom 50 = .ok (.getfield 30, 3) := by decide +kernel
theorem dX0_startFrom_53 : decode cX0_startFrom 53 = .ok (.putfield 30, 3) := by decide +kernel
theorem dX0_startFrom_56 : decode cX0_startFrom 56 = .ok (.aload_n 0, 1) := by decide +kernel
theorem dX0_startFrom_57 : decode cX0_startFrom 57 = .ok (.aload_n 1, 1) := by decide +kernel
theorem dX0_startFrom_58 : decode cX0_startFrom 58 = .ok (.getfield 33, 3) := by decide +kernel
theorem dX0_startFrom_61 : decode cX0_startFrom 61 = .ok (.putfield 33, 3) := by decide +kernel
theorem dX0_startFrom_64 : decode cX0_startFrom 64 = .ok (.aload_n 0, 1) := by decide +kernel
theorem dX0_startFrom_65 : decode cX0_startFrom 65 = .ok (.aload_n 1, 1) := by decide +kernel
theorem dX0_startFrom_66 : decode cX0_startFrom 66 = .ok (.getfield 36, 3) := by decide +kernel
theorem dX0_startFrom_69 : decode cX0_startFrom 69 = .ok (.putfield 36, 3) := by decide +kernel
theorem dX0_startFrom_72 : decode cX0_startFrom 72 = .ok (.return_, 1) := by decide +kernel
set_option maxRecDepth 20000 in
theorem ggX0_include_X2_powerAt : GoodIn wsX0_include wsX2_powerAt := goodIn_r _ [12] (by decide +kernel) (by decide +kernel)
set_option maxRecDepth 20000 in
theorem gX0_include_X2_powerAt_n39 : GoodIn wsX0_include (wsX2_powerAt) := ggX0_include_X2_powerAt
theorem dX0_include_0 : decode cX0_include 0 = .ok (.iload_n 1, 1) := by decide +kernel
theorem dX0_include_1 : decode cX0_include 1 = .ok (.iload_n 2, 1) := by decide +kernel
theorem dX0_include_2 : decode cX0_include 2 = .ok (.invokestatic 39, 3) := by decide +kernel
theorem dX0_include_5 : decode cX0_include 5 = .ok (.istore_n 3, 1) := by decide +kernel
theorem dX0_include_6 : decode cX0_include 6 = .ok (.aload_n 0, 1) := by decide +kernel
theorem dX0_include_7 : decode cX0_include 7 = .ok (.dup, 1) := by decide +kernel
theorem dX0_include_8 : decode cX0_include 8 = .ok (.getfield 9, 3) := by decide +kernel
theorem dX0_include_11 : decode cX0_include 11 = .ok (.lconst 1, 1) := by decide +kernel
theorem dX0_include_12 : decode cX0_include 12 = .ok (.ladd, 1) := by decide +kernel
theorem dX0_include_13 : decode cX0_include 13 = .ok (.putfield 9, 3) := by decide +kernel
theorem dX0_include_16 : decode cX0_include 16 = .ok (.aload_n 0, 1) := by decide +kernel
theorem dX0_include_17 : decode cX0_include 17 = .ok (.dup, 1) := by decide +kernel
theorem dX0_include_18 : decode cX0_include 18 = .ok (.getfield 15, 3) := by decide +kernel
theorem dX0_include_21 : decode cX0_include 21 = .ok (.iload_n 1, 1) := by decide +kernel
theorem dX0_include_22 : decode cX0_include 22 = .ok (.i2l, 1) := by decide +kernel
theorem dX0_include_23 : decode cX0_include 23 = .ok (.ladd, 1) := by decide +kernel
theorem dX0_include_24 : decode cX0_include 24 = .ok (.putfield 15, 3) := by decide +kernel
theorem dX0_include_27 : decode cX0_include 27 = .ok (.aload_n 0, 1) := by decide +kernel
theorem dX0_include_28 : decode cX0_include 28 = .ok (.dup, 1) := by decide +kernel
theorem dX0_include_29 : decode cX0_include 29 = .ok (.getfield 18, 3) := by decide +kernel
theorem dX0_include_32 : decode cX0_include 32 = .ok (.iload_n 2, 1) := by decide +kernel
theorem dX0_include_33 : decode cX0_include 33 = .ok (.i2l, 1) := by decide +kernel
theorem dX0_include_34 : decode cX0_include 34 = .ok (.ladd, 1) := by decide +kernel
theorem dX0_include_35 : decode cX0_include 35 = .ok (.putfield 18, 3) := by decide +kernel
theorem dX0_include_38 : decode cX0_include 38 = .ok (.aload_n 0, 1) := by decide +kernel
theorem dX0_include_39 : decode cX0_include 39 = .ok (.dup, 1) := by decide +kernel
theorem dX0_include_40 : decode cX0_include 40 = .ok (.getfield 21, 3) := by decide +kernel
theorem dX0_include_43 : decode cX0_include 43 = .ok (.iload_n 1, 1) := by decide +kernel
theorem dX0_include_44 : decode cX0_include 44 = .ok (.iload_n 1, 1) := by decide +kernel
theorem dX0_include_45 : decode cX0_include 45 = .ok (.imul, 1) := by decide +kernel
theorem dX0_include_46 : decode cX0_include 46 = .ok (.i2l, 1) := by decide +kernel
theorem dX0_include_47 : decode cX0_include 47 = .ok (.ladd, 1) := by decide +kernel
theorem dX0_include_48 : decode cX0_include 48 = .ok (.putfield 21, 3) := by decide +kernel
theorem dX0_include_51 : decode cX0_include 51 = .ok (.aload_n 0, 1) := by decide +kernel
theorem dX0_include_52 : decode cX0_include 52 = .ok (.dup, 1) := by decide +kernel
theorem dX0_include_53 : decode cX0_include 53 = .ok (.getfield 24, 3) := by decide +kernel
theorem dX0_include_56 : decode cX0_include 56 = .ok (.iload_n 1, 1) := by decide +kernel
theorem dX0_include_57 : decode cX0_include 57 = .ok (.iload_n 2, 1) := by decide +kernel
theorem dX0_include_58 : decode cX0_include 58 = .ok (.imul, 1) := by decide +kernel
theorem dX0_include_59 : decode cX0_include 59 = .ok (.i2l, 1) := by decide +kernel
theorem dX0_include_60 : decode cX0_include 60 = .ok (.ladd, 1) := by decide +kernel
theorem dX0_include_61 : decode cX0_include 61 = .ok (.putfield 24, 3) := by decide +kernel
theorem dX0_include_64 : decode cX0_include 64 = .ok (.aload_n 0, 1) := by decide +kernel
theorem dX0_include_65 : decode cX0_include 65 = .ok (.dup, 1) := by decide +kernel
theorem dX0_include_66 : decode cX0_include 66 = .ok (.getfield 27, 3) := by decide +kernel
theorem dX0_include_69 : decode cX0_include 69 = .ok (.iload_n 2, 1) := by decide +kernel
theorem dX0_include_70 : decode cX0_include 70 = .ok (.iload_n 2, 1) := by decide +kernel
theorem dX0_include_71 : decode cX0_include 71 = .ok (.imul, 1) := by decide +kernel
theorem dX0_include_72 : decode cX0_include 72 = .ok (.i2l, 1) := by decide +kernel
theorem dX0_include_73 : decode cX0_include 73 = .ok (.ladd, 1) := by decide +kernel
theorem dX0_include_74 : decode cX0_include 74 = .ok (.putfield 27, 3) := by decide +kernel
theorem dX0_include_77 : decode cX0_include 77 = .ok (.aload_n 0, 1) := by decide +kernel
theorem dX0_include_78 : decode cX0_include 78 = .ok (.dup, 1) := by decide +kernel
theorem dX0_include_79 : decode cX0_include 79 = .ok (.getfield 30, 3) := by decide +kernel
theorem dX0_include_82 : decode cX0_include 82 = .ok (.iload_n 3, 1) := by decide +kernel
theorem dX0_include_83 : decode cX0_include 83 = .ok (.i2l, 1) := by decide +kernel
theorem dX0_include_84 : decode cX0_include 84 = .ok (.ladd, 1) := by decide +kernel
theorem dX0_include_85 : decode cX0_include 85 = .ok (.putfield 30, 3) := by decide +kernel
theorem dX0_include_88 : decode cX0_include 88 = .ok (.aload_n 0, 1) := by decide +kernel
theorem dX0_include_89 : decode cX0_include 89 = .ok (.dup, 1) := by decide +kernel
theorem dX0_include_90 : decode cX0_include 90 = .ok (.getfield 33, 3) := by decide +kernel
theorem dX0_include_93 : decode cX0_include 93 = .ok (.iload_n 1, 1) := by decide +kernel
theorem dX0_include_94 : decode cX0_include 94 = .ok (.iload_n 3, 1) := by decide +kernel
theorem dX0_include_95 : decode cX0_include 95 = .ok (.imul, 1) := by decide +kernel
theorem dX0_include_96 : decode cX0_include 96 = .ok (.i2l, 1) := by decide +kernel
theorem dX0_include_97 : decode cX0_include 97 = .ok (.ladd, 1) := by decide +kernel
theorem dX0_include_98 : decode cX0_include 98 = .ok (.putfield 33, 3) := by decide +kernel
theorem dX0_include_101 : decode cX0_include 101 = .ok (.aload_n 0, 1) := by decide +kernel
theorem dX0_include_102 : decode cX0_include 102 = .ok (.dup, 1) := by decide +kernel
theorem dX0_include_103 : decode cX0_include 103 = .ok (.getfield 36, 3) := by decide +kernel
theorem dX0_include_106 : decode cX0_include 106 = .ok (.iload_n 2, 1) := by decide +kernel
theorem dX0_include_107 : decode cX0_include 107 = .ok (.iload_n 3, 1) := by decide +kernel
theorem dX0_include_108 : decode cX0_include 108 = .ok (.imul, 1) := by decide +kernel
theorem dX0_include_109 : decode cX0_include 109 = .ok (.i2l, 1) := by decide +kernel
theorem dX0_include_110 : decode cX0_include 110 = .ok (.ladd, 1) := by decide +kernel
theorem dX0_include_111 : decode cX0_include 111 = .ok (.putfield 36, 3) := by decide +kernel
theorem dX0_include_114 : decode cX0_include 114 = .ok (.return_, 1) := by decide +kernel
theorem dX0_lay_0 : decode cX0_lay 0 = .ok (.aload_n 0, 1) := by decide +kernel
theorem dX0_lay_1 : decode cX0_lay 1 = .ok (.getfield 9, 3) := by decide +kernel
theorem dX0_lay_4 : decode cX0_lay 4 = .ok (.aload_n 0, 1) := by decide +kernel
theorem dX0_lay_5 : decode cX0_lay 5 = .ok (.getfield 21, 3) := by decide +kernel
theorem dX0_lay_8 : decode cX0_lay 8 = .ok (.lmul, 1) := by decide +kernel
theorem dX0_lay_9 : decode cX0_lay 9 = .ok (.aload_n 0, 1) := by decide +kernel
theorem dX0_lay_10 : decode cX0_lay 10 = .ok (.getfield 15, 3) := by decide +kernel
theorem dX0_lay_13 : decode cX0_lay 13 = .ok (.aload_n 0, 1) := by decide +kernel
theorem dX0_lay_14 : decode cX0_lay 14 = .ok (.getfield 15, 3) := by decide +kernel
theorem dX0_lay_17 : decode cX0_lay 17 = .ok (.lmul, 1) := by decide +kernel
theorem dX0_lay_18 : decode cX0_lay 18 = .ok (.lsub, 1) := by decide +kernel
theorem dX0_lay_19 : decode cX0_lay 19 = .ok (.lstore_n 1, 1) := by decide +kernel
theorem dX0_lay_20 : decode cX0_lay 20 = .ok (.aload_n 0, 1) := by decide +kernel
theorem dX0_lay_21 : decode cX0_lay 21 = .ok (.getfield 9, 3) := by decide +kernel
theorem dX0_lay_24 : decode cX0_lay 24 = .ok (.aload_n 0, 1) := by decide +kernel
theorem dX0_lay_25 : decode cX0_lay 25 = .ok (.getfield 24, 3) := by decide +kernel
theorem dX0_lay_28 : decode cX0_lay 28 = .ok (.lmul, 1) := by decide +kernel
theorem dX0_lay_29 : decode cX0_lay 29 = .ok (.aload_n 0, 1) := by decide +kernel
theorem dX0_lay_30 : decode cX0_lay 30 = .ok (.getfield 15, 3) := by decide +kernel
theorem dX0_lay_33 : decode cX0_lay 33 = .ok (.aload_n 0, 1) := by decide +kernel
theorem dX0_lay_34 : decode cX0_lay 34 = .ok (.getfield 18, 3) := by decide +kernel
theorem dX0_lay_37 : decode cX0_lay 37 = .ok (.lmul, 1) := by decide +kernel
theorem dX0_lay_38 : decode cX0_lay 38 = .ok (.lsub, 1) := by decide +kernel
theorem dX0_lay_39 : decode cX0_lay 39 = .ok (.lstore_n 3, 1) := by decide +kernel
theorem dX0_lay_40 : decode cX0_lay 40 = .ok (.aload_n 0, 1) := by decide +kernel
theorem dX0_lay_41 : decode cX0_lay 41 = .ok (.getfield 9, 3) := by decide +kernel
theorem dX0_lay_44 : decode cX0_lay 44 = .ok (.aload_n 0, 1) := by decide +kernel
theorem dX0_lay_45 : decode cX0_lay 45 = .ok (.getfield 27, 3) := by decide +kernel
theorem dX0_lay_48 : decode cX0_lay 48 = .ok (.lmul, 1) := by decide +kernel
theorem dX0_lay_49 : decode cX0_lay 49 = .ok (.aload_n 0, 1) := by decide +kernel
theorem dX0_lay_50 : decode cX0_lay 50 = .ok (.getfield 18, 3) := by decide +kernel
theorem dX0_lay_53 : decode cX0_lay 53 = .ok (.aload_n 0, 1) := by decide +kernel
theorem dX0_lay_54 : decode cX0_lay 54 = .ok (.getfield 18, 3) := by decide +kernel
theorem dX0_lay_57 : decode cX0_lay 57 = .ok (.lmul, 1) := by decide +kernel
theorem dX0_lay_58 : decode cX0_lay 58 = .ok (.lsub, 1) := by decide +kernel
theorem dX0_lay_59 : decode cX0_lay 59 = .ok (.lstore 5, 2) := by decide +kernel
theorem dX0_lay_61 : decode cX0_lay 61 = .ok (.aload_n 0, 1) := by decide +kernel
theorem dX0_lay_62 : decode cX0_lay 62 = .ok (.getfield 9, 3) := by decide +kernel
theorem dX0_lay_65 : decode cX0_lay 65 = .ok (.aload_n 0, 1) := by decide +kernel
theorem dX0_lay_66 : decode cX0_lay 66 = .ok (.getfield 33, 3) := by decide +kernel
theorem dX0_lay_69 : decode cX0_lay 69 = .ok (.lmul, 1) := by decide +kernel
theorem dX0_lay_70 : decode cX0_lay 70 = .ok (.aload_n 0, 1) := by decide +kernel
theorem dX0_lay_71 : decode cX0_lay 71 = .ok (.getfield 15, 3) := by decide +kernel
theorem dX0_lay_74 : decode cX0_lay 74 = .ok (.aload_n 0, 1) := by decide +kernel
theorem dX0_lay_75 : decode cX0_lay 75 = .ok (.getfield 30, 3) := by decide +kernel
theorem dX0_lay_78 : decode cX0_lay 78 = .ok (.lmul, 1) := by decide +kernel
theorem dX0_lay_79 : decode cX0_lay 79 = .ok (.lsub, 1) := by decide +kernel
theorem dX0_lay_80 : decode cX0_lay 80 = .ok (.lstore 7, 2) := by decide +kernel
theorem dX0_lay_82 : decode cX0_lay 82 = .ok (.aload_n 0, 1) := by decide +kernel
theorem dX0_lay_83 : decode cX0_lay 83 = .ok (.getfield 9, 3) := by decide +kernel
theorem dX0_lay_86 : decode cX0_lay 86 = .ok (.aload_n 0, 1) := by decide +kernel
theorem dX0_lay_87 : decode cX0_lay 87 = .ok (.getfield 36, 3) := by decide +kernel
theorem dX0_lay_90 : decode cX0_lay 90 = .ok (.lmul, 1) := by decide +kernel
theorem dX0_lay_91 : decode cX0_lay 91 = .ok (.aload_n 0, 1) := by decide +kernel
theorem dX0_lay_92 : decode cX0_lay 92 = .ok (.getfield 18, 3) := by decide +kernel
theorem dX0_lay_95 : decode cX0_lay 95 = .ok (.aload_n 0, 1) := by decide +kernel
theorem dX0_lay_96 : decode cX0_lay 96 = .ok (.getfield 30, 3) := by decide +kernel
theorem dX0_lay_99 : decode cX0_lay 99 = .ok (.lmul, 1) := by decide +kernel
theorem dX0_lay_100 : decode cX0_lay 100 = .ok (.lsub, 1) := by decide +kernel
theorem dX0_lay_101 : decode cX0_lay 101 = .ok (.lstore 9, 2) := by decide +kernel
theorem dX0_lay_103 : decode cX0_lay 103 = .ok (.aload_n 0, 1) := by decide +kernel
theorem dX0_lay_104 : decode cX0_lay 104 = .ok (.lload_n 1, 1) := by decide +kernel
theorem dX0_lay_105 : decode cX0_lay 105 = .ok (.lload 5, 2) := by decide +kernel
theorem dX0_lay_107 : decode cX0_lay 107 = .ok (.lmul, 1) := by decide +kernel
theorem dX0_lay_108 : decode cX0_lay 108 = .ok (.lload_n 3, 1) := by decide +kernel
theorem dX0_lay_109 : decode cX0_lay 109 = .ok (.lload_n 3, 1) := by decide +kernel
theorem dX0_lay_110 : decode cX0_lay 110 = .ok (.lmul, 1) := by decide +kernel
theorem dX0_lay_111 : decode cX0_lay 111 = .ok (.lsub, 1) := by decide +kernel
theorem dX0_lay_112 : decode cX0_lay 112 = .ok (.putfield 43, 3) := by decide +kernel
theorem dX0_lay_115 : decode cX0_lay 115 = .ok (.aload_n 0, 1) := by decide +kernel
theorem dX0_lay_116 : decode cX0_lay 116 = .ok (.lload 7, 2) := by decide +kernel
theorem dX0_lay_118 : decode cX0_lay 118 = .ok (.lload 5, 2) := by decide +kernel
theorem dX0_lay_120 : decode cX0_lay 120 = .ok (.lmul, 1) := by decide +kernel
theorem dX0_lay_121 : decode cX0_lay 121 = .ok (.lload 9, 2) := by decide +kernel
theorem dX0_lay_123 : decode cX0_lay 123 = .ok (.lload_n 3, 1) := by decide +kernel
theorem dX0_lay_124 : decode cX0_lay 124 = .ok (.lmul, 1) := by decide +kernel
theorem dX0_lay_125 : decode cX0_lay 125 = .ok (.lsub, 1) := by decide +kernel
theorem dX0_lay_126 : decode cX0_lay 126 = .ok (.putfield 46, 3) := by decide +kernel
theorem dX0_lay_129 : decode cX0_lay 129 = .ok (.aload_n 0, 1) := by decide +kernel
theorem dX0_lay_130 : decode cX0_lay 130 = .ok (.lload 9, 2) := by decide +kernel
theorem dX0_lay_132 : decode cX0_lay 132 = .ok (.lload_n 1, 1) := by decide +kernel
theorem dX0_lay_133 : decode cX0_lay 133 = .ok (.lmul, 1) := by decide +kernel
theorem dX0_lay_134 : decode cX0_lay 134 = .ok (.lload 7, 2) := by decide +kernel
theorem dX0_lay_136 : decode cX0_lay 136 = .ok (.lload_n 3, 1) := by decide +kernel
theorem dX0_lay_137 : decode cX0_lay 137 = .ok (.lmul, 1) := by decide +kernel
theorem dX0_lay_138 : decode cX0_lay 138 = .ok (.lsub, 1) := by decide +kernel
theorem dX0_lay_139 : decode cX0_lay 139 = .ok (.putfield 49, 3) := by decide +kernel
theorem dX0_lay_142 : decode cX0_lay 142 = .ok (.aload_n 0, 1) := by decide +kernel
theorem dX0_lay_143 : decode cX0_lay 143 = .ok (.aload_n 0, 1) := by decide +kernel
theorem dX0_lay_144 : decode cX0_lay 144 = .ok (.getfield 30, 3) := by decide +kernel
theorem dX0_lay_147 : decode cX0_lay 147 = .ok (.aload_n 0, 1) := by decide +kernel
theorem dX0_lay_148 : decode cX0_lay 148 = .ok (.getfield 43, 3) := by decide +kernel
theorem dX0_lay_151 : decode cX0_lay 151 = .ok (.lmul, 1) := by decide +kernel
theorem dX0_lay_152 : decode cX0_lay 152 = .ok (.aload_n 0, 1) := by decide +kernel
theorem dX0_lay_153 : decode cX0_lay 153 = .ok (.getfield 46, 3) := by decide +kernel
theorem dX0_lay_156 : decode cX0_lay 156 = .ok (.aload_n 0, 1) := by decide +kernel
theorem dX0_lay_157 : decode cX0_lay 157 = .ok (.getfield 15, 3) := by decide +kernel
theorem dX0_lay_160 : decode cX0_lay 160 = .ok (.lmul, 1) := by decide +kernel
theorem dX0_lay_161 : decode cX0_lay 161 = .ok (.lsub, 1) := by decide +kernel
theorem dX0_lay_162 : decode cX0_lay 162 = .ok (.aload_n 0, 1) := by decide +kernel
theorem dX0_lay_163 : decode cX0_lay 163 = .ok (.getfield 49, 3) := by decide +kernel
theorem dX0_lay_166 : decode cX0_lay 166 = .ok (.aload_n 0, 1) := by decide +kernel
theorem dX0_lay_167 : decode cX0_lay 167 = .ok (.getfield 18, 3) := by decide +kernel
theorem dX0_lay_170 : decode cX0_lay 170 = .ok (.lmul, 1) := by decide +kernel
theorem dX0_lay_171 : decode cX0_lay 171 = .ok (.lsub, 1) := by decide +kernel
theorem dX0_lay_172 : decode cX0_lay 172 = .ok (.putfield 52, 3) := by decide +kernel
theorem dX0_lay_175 : decode cX0_lay 175 = .ok (.return_, 1) := by decide +kernel
theorem dX0_isFlat_0 : decode cX0_isFlat 0 = .ok (.aload_n 0, 1) := by decide +kernel
theorem dX0_isFlat_1 : decode cX0_isFlat 1 = .ok (.getfield 43, 3) := by decide +kernel
theorem dX0_isFlat_4 : decode cX0_isFlat 4 = .ok (.lconst 0, 1) := by decide +kernel
theorem dX0_isFlat_5 : decode cX0_isFlat 5 = .ok (.lcmp, 1) := by decide +kernel
theorem dX0_isFlat_6 : decode cX0_isFlat 6 = .ok (.ifCond .gt 7, 3) := by decide +kernel
theorem dX0_isFlat_9 : decode cX0_isFlat 9 = .ok (.iconst 1, 1) := by decide +kernel
theorem dX0_isFlat_10 : decode cX0_isFlat 10 = .ok (.goto 4, 3) := by decide +kernel
theorem dX0_isFlat_13 : decode cX0_isFlat 13 = .ok (.iconst 0, 1) := by decide +kernel
theorem dX0_isFlat_14 : decode cX0_isFlat 14 = .ok (.ireturn, 1) := by decide +kernel
theorem dX0_fullLower_0 : decode cX0_fullLower 0 = .ok (.aload_n 0, 1) := by decide +kernel
theorem dX0_fullLower_1 : decode cX0_fullLower 1 = .ok (.getfield 9, 3) := by decide +kernel
theorem dX0_fullLower_4 : decode cX0_fullLower 4 = .ok (.aload_n 0, 1) := by decide +kernel
theorem dX0_fullLower_5 : decode cX0_fullLower 5 = .ok (.getfield 43, 3) := by decide +kernel
theorem dX0_fullLower_8 : decode cX0_fullLower 8 = .ok (.lmul, 1) := by decide +kernel
theorem dX0_fullLower_9 : decode cX0_fullLower 9 = .ok (.lreturn, 1) := by decide +kernel
set_option maxRecDepth 20000 in
theorem ggX0_offUpperAt_X2_powerAt : GoodIn wsX0_offUpperAt wsX2_powerAt := goodIn_r _ [8] (by decide +kernel) (by decide +kernel)
set_option maxRecDepth 20000 in
theorem gX0_offUpperAt_X2_powerAt_n39 : GoodIn wsX0_offUpperAt (wsX2_powerAt) := ggX0_offUpperAt_X2_powerAt
theorem dX0_offUpperAt_0 : decode cX0_offUpperAt 0 = .ok (.aload_n 0, 1) := by decide +kernel
theorem dX0_offUpperAt_1 : decode cX0_offUpperAt 1 = .ok (.getfield 9, 3) := by decide +kernel
theorem dX0_offUpperAt_4 : decode cX0_offUpperAt 4 = .ok (.iload_n 1, 1) := by decide +kernel
theorem dX0_offUpperAt_5 : decode cX0_offUpperAt 5 = .ok (.iload_n 2, 1) := by decide +kernel
theorem dX0_offUpperAt_6 : decode cX0_offUpperAt 6 = .ok (.invokestatic 39, 3) := by decide +kernel
theorem dX0_offUpperAt_9 : decode cX0_offUpperAt 9 = .ok (.i2l, 1) := by decide +kernel
theorem dX0_offUpperAt_10 : decode cX0_offUpperAt 10 = .ok (.aload_n 0, 1) := by decide +kernel
theorem dX0_offUpperAt_11 : decode cX0_offUpperAt 11 = .ok (.getfield 43, 3) := by decide +kernel
theorem dX0_offUpperAt_14 : decode cX0_offUpperAt 14 = .ok (.lmul, 1) := by decide +kernel
theorem dX0_offUpperAt_15 : decode cX0_offUpperAt 15 = .ok (.aload_n 0, 1) := by decide +kernel
theorem dX0_offUpperAt_16 : decode cX0_offUpperAt 16 = .ok (.getfield 46, 3) := by decide +kernel
theorem dX0_offUpperAt_19 : decode cX0_offUpperAt 19 = .ok (.iload_n 1, 1) := by decide +kernel
theorem dX0_offUpperAt_20 : decode cX0_offUpperAt 20 = .ok (.i2l, 1) := by decide +kernel
theorem dX0_offUpperAt_21 : decode cX0_offUpperAt 21 = .ok (.lmul, 1) := by decide +kernel
theorem dX0_offUpperAt_22 : decode cX0_offUpperAt 22 = .ok (.lsub, 1) := by decide +kernel
theorem dX0_offUpperAt_23 : decode cX0_offUpperAt 23 = .ok (.aload_n 0, 1) := by decide +kernel
theorem dX0_offUpperAt_24 : decode cX0_offUpperAt 24 = .ok (.getfield 49, 3) := by decide +kernel
theorem dX0_offUpperAt_27 : decode cX0_offUpperAt 27 = .ok (.iload_n 2, 1) := by decide +kernel
theorem dX0_offUpperAt_28 : decode cX0_offUpperAt 28 = .ok (.i2l, 1) := by decide +kernel
theorem dX0_offUpperAt_29 : decode cX0_offUpperAt 29 = .ok (.lmul, 1) := by decide +kernel
theorem dX0_offUpperAt_30 : decode cX0_offUpperAt 30 = .ok (.lsub, 1) := by decide +kernel
theorem dX0_offUpperAt_31 : decode cX0_offUpperAt 31 = .ok (.lmul, 1) := by decide +kernel
theorem dX0_offUpperAt_32 : decode cX0_offUpperAt 32 = .ok (.aload_n 0, 1) := by decide +kernel
theorem dX0_offUpperAt_33 : decode cX0_offUpperAt 33 = .ok (.getfield 52, 3) := by decide +kernel
theorem dX0_offUpperAt_36 : decode cX0_offUpperAt 36 = .ok (.lsub, 1) := by decide +kernel
theorem dX0_offUpperAt_37 : decode cX0_offUpperAt 37 = .ok (.lreturn, 1) := by decide +kernel
set_option maxRecDepth 20000 in
theorem ggX0_eighthAt_X0_eighthTowards : GoodIn wsX0_eighthAt wsX0_eighthTowards := goodIn_r _ [8] (by decide +kernel) (by decide +kernel)
set_option maxRecDepth 20000 in
theorem gX0_eighthAt_X0_eighthTowards : GoodIn wsX0_eighthAt (va_wsS RX0 57 yX0_eighthTowards wsX0_eighthTowards) := goodIn_app (goodIn_of _ (by decide +kernel)) ggX0_eighthAt_X0_eighthTowards
theorem dX0_eighthAt_0 : decode cX0_eighthAt 0 = .ok (.ldc2_w 55, 3) := by decide +kernel
theorem dX0_eighthAt_3 : decode cX0_eighthAt 3 = .ok (.aload_n 0, 1) := by decide +kernel
theorem dX0_eighthAt_4 : decode cX0_eighthAt 4 = .ok (.getfield 43, 3) := by decide +kernel
theorem dX0_eighthAt_7 : decode cX0_eighthAt 7 = .ok (.lmul, 1) := by decide +kernel
theorem dX0_eighthAt_8 : decode cX0_eighthAt 8 = .ok (.iload_n 1, 1) := by decide +kernel
theorem dX0_eighthAt_9 : decode cX0_eighthAt 9 = .ok (.i2l, 1) := by decide +kernel
theorem dX0_eighthAt_10 : decode cX0_eighthAt 10 = .ok (.lmul, 1) := by decide +kernel
theorem dX0_eighthAt_11 : decode cX0_eighthAt 11 = .ok (.aload_n 0, 1) := by decide +kernel
theorem dX0_eighthAt_12 : decode cX0_eighthAt 12 = .ok (.getfield 46, 3) := by decide +kernel
theorem dX0_eighthAt_15 : decode cX0_eighthAt 15 = .ok (.lsub, 1) := by decide +kernel
theorem dX0_eighthAt_16 : decode cX0_eighthAt 16 = .ok (.ldc2_w 55, 3) := by decide +kernel
theorem dX0_eighthAt_19 : decode cX0_eighthAt 19 = .ok (.aload_n 0, 1) := by decide +kernel
theorem dX0_eighthAt_20 : decode cX0_eighthAt 20 = .ok (.getfield 43, 3) := by decide +kernel
theorem dX0_eighthAt_23 : decode cX0_eighthAt 23 = .ok (.lmul, 1) := by decide +kernel
theorem dX0_eighthAt_24 : decode cX0_eighthAt 24 = .ok (.iload_n 2, 1) := by decide +kernel
theorem dX0_eighthAt_25 : decode cX0_eighthAt 25 = .ok (.i2l, 1) := by decide +kernel
theorem dX0_eighthAt_26 : decode cX0_eighthAt 26 = .ok (.lmul, 1) := by decide +kernel
theorem dX0_eighthAt_27 : decode cX0_eighthAt 27 = .ok (.aload_n 0, 1) := by decide +kernel
theorem dX0_eighthAt_28 : decode cX0_eighthAt 28 = .ok (.getfield 49, 3) := by decide +kernel
theorem dX0_eighthAt_31 : decode cX0_eighthAt 31 = .ok (.lsub, 1) := by decide +kernel
theorem dX0_eighthAt_32 : decode cX0_eighthAt 32 = .ok (.invokestatic 57, 3) := by decide +kernel
theorem dX0_eighthAt_35 : decode cX0_eighthAt 35 = .ok (.ireturn, 1) := by decide +kernel
theorem dX0_eighthTowards_0 : decode cX0_eighthTowards 0 = .ok (.lload_n 2, 1) := by decide +kernel
theorem dX0_eighthTowards_1 : decode cX0_eighthTowards 1 = .ok (.lconst 0, 1) := by decide +kernel
theorem dX0_eighthTowards_2 : decode cX0_eighthTowards 2 = .ok (.lcmp, 1) := by decide +kernel
theorem dX0_eighthTowards_3 : decode cX0_eighthTowards 3 = .ok (.ifCond .lt 11, 3) := by decide +kernel
theorem dX0_eighthTowards_6 : decode cX0_eighthTowards 6 = .ok (.lload_n 0, 1) := by decide +kernel
theorem dX0_eighthTowards_7 : decode cX0_eighthTowards 7 = .ok (.lload_n 2, 1) := by decide +kernel
theorem dX0_eighthTowards_8 : decode cX0_eighthTowards 8 = .ok (.lcmp, 1) := by decide +kernel
theorem dX0_eighthTowards_9 : decode cX0_eighthTowards 9 = .ok (.ifCond .le 5, 3) := by decide +kernel
theorem dX0_eighthTowards_12 : decode cX0_eighthTowards 12 = .ok (.iconst 0, 1) := by decide +kernel
theorem dX0_eighthTowards_13 : decode cX0_eighthTowards 13 = .ok (.ireturn, 1) := by decide +kernel
theorem dX0_eighthTowards_14 : decode cX0_eighthTowards 14 = .ok (.lload_n 0, 1) := by decide +kernel
theorem dX0_eighthTowards_15 : decode cX0_eighthTowards 15 = .ok (.lconst 0, 1) := by decide +kernel
theorem dX0_eighthTowards_16 : decode cX0_eighthTowards 16 = .ok (.lcmp, 1) := by decide +kernel
theorem dX0_eighthTowards_17 : decode cX0_eighthTowards 17 = .ok (.ifCond .le 11, 3) := by decide +kernel
theorem dX0_eighthTowards_20 : decode cX0_eighthTowards 20 = .ok (.lload_n 2, 1) := by decide +kernel
theorem dX0_eighthTowards_21 : decode cX0_eighthTowards 21 = .ok (.lload_n 0, 1) := by decide +kernel
theorem dX0_eighthTowards_22 : decode cX0_eighthTowards 22 = .ok (.lcmp, 1) := by decide +kernel
theorem dX0_eighthTowards_23 : decode cX0_eighthTowards 23 = .ok (.ifCond .lt 5, 3) := by decide +kernel
theorem dX0_eighthTowards_26 : decode cX0_eighthTowards 26 = .ok (.iconst 1, 1) := by decide +kernel
theorem dX0_eighthTowards_27 : decode cX0_eighthTowards 27 = .ok (.ireturn, 1) := by decide +kernel
theorem dX0_eighthTowards_28 : decode cX0_eighthTowards 28 = .ok (.lload_n 0, 1) := by decide +kernel
theorem dX0_eighthTowards_29 : decode cX0_eighthTowards 29 = .ok (.lconst 0, 1) := by decide +kernel
theorem dX0_eighthTowards_30 : decode cX0_eighthTowards 30 = .ok (.lcmp, 1) := by decide +kernel
theorem dX0_eighthTowards_31 : decode cX0_eighthTowards 31 = .ok (.ifCond .gt 12, 3) := by decide +kernel
theorem dX0_eighthTowards_34 : decode cX0_eighthTowards 34 = .ok (.lload_n 2, 1) := by decide +kernel
theorem dX0_eighthTowards_35 : decode cX0_eighthTowards 35 = .ok (.lload_n 0, 1) := by decide +kernel
theorem dX0_eighthTowards_36 : decode cX0_eighthTowards 36 = .ok (.lneg, 1) := by decide +kernel
theorem dX0_eighthTowards_37 : decode cX0_eighthTowards 37 = .ok (.lcmp, 1) := by decide +kernel
theorem dX0_eighthTowards_38 : decode cX0_eighthTowards 38 = .ok (.ifCond .le 5, 3) := by decide +kernel
theorem dX0_eighthTowards_41 : decode cX0_eighthTowards 41 = .ok (.iconst 2, 1) := by decide +kernel
theorem dX0_eighthTowards_42 : decode cX0_eighthTowards 42 = .ok (.ireturn, 1) := by decide +kernel
theorem dX0_eighthTowards_43 : decode cX0_eighthTowards 43 = .ok (.lload_n 2, 1) := by decide +kernel
theorem dX0_eighthTowards_44 : decode cX0_eighthTowards 44 = .ok (.lconst 0, 1) := by decide +kernel
theorem dX0_eighthTowards_45 : decode cX0_eighthTowards 45 = .ok (.lcmp, 1) := by decide +kernel
theorem dX0_eighthTowards_46 : decode cX0_eighthTowards 46 = .ok (.ifCond .le 12, 3) := by decide +kernel
theorem dX0_eighthTowards_49 : decode cX0_eighthTowards 49 = .ok (.lload_n 0, 1) := by decide +kernel
theorem dX0_eighthTowards_50 : decode cX0_eighthTowards 50 = .ok (.lneg, 1) := by decide +kernel
theorem dX0_eighthTowards_51 : decode cX0_eighthTowards 51 = .ok (.lload_n 2, 1) := by decide +kernel
theorem dX0_eighthTowards_52 : decode cX0_eighthTowards 52 = .ok (.lcmp, 1) := by decide +kernel
theorem dX0_eighthTowards_53 : decode cX0_eighthTowards 53 = .ok (.ifCond .lt 5, 3) := by decide +kernel
theorem dX0_eighthTowards_56 : decode cX0_eighthTowards 56 = .ok (.iconst 3, 1) := by decide +kernel
theorem dX0_eighthTowards_57 : decode cX0_eighthTowards 57 = .ok (.ireturn, 1) := by decide +kernel
theorem dX0_eighthTowards_58 : decode cX0_eighthTowards 58 = .ok (.lload_n 2, 1) := by decide +kernel
theorem dX0_eighthTowards_59 : decode cX0_eighthTowards 59 = .ok (.lconst 0, 1) := by decide +kernel
theorem dX0_eighthTowards_60 : decode cX0_eighthTowards 60 = .ok (.lcmp, 1) := by decide +kernel
theorem dX0_eighthTowards_61 : decode cX0_eighthTowards 61 = .ok (.ifCond .gt 13, 3) := by decide +kernel
theorem dX0_eighthTowards_64 : decode cX0_eighthTowards 64 = .ok (.lload_n 0, 1) := by decide +kernel
theorem dX0_eighthTowards_65 : decode cX0_eighthTowards 65 = .ok (.lneg, 1) := by decide +kernel
theorem dX0_eighthTowards_66 : decode cX0_eighthTowards 66 = .ok (.lload_n 2, 1) := by decide +kernel
theorem dX0_eighthTowards_67 : decode cX0_eighthTowards 67 = .ok (.lneg, 1) := by decide +kernel
theorem dX0_eighthTowards_68 : decode cX0_eighthTowards 68 = .ok (.lcmp, 1) := by decide +kernel
theorem dX0_eighthTowards_69 : decode cX0_eighthTowards 69 = .ok (.ifCond .le 5, 3) := by decide +kernel
theorem dX0_eighthTowards_72 : decode cX0_eighthTowards 72 = .ok (.iconst 4, 1) := by decide +kernel
theorem dX0_eighthTowards_73 : decode cX0_eighthTowards 73 = .ok (.ireturn, 1) := by decide +kernel
theorem dX0_eighthTowards_74 : decode cX0_eighthTowards 74 = .ok (.lload_n 0, 1) := by decide +kernel
theorem dX0_eighthTowards_75 : decode cX0_eighthTowards 75 = .ok (.lconst 0, 1) := by decide +kernel
theorem dX0_eighthTowards_76 : decode cX0_eighthTowards 76 = .ok (.lcmp, 1) := by decide +kernel
theorem dX0_eighthTowards_77 : decode cX0_eighthTowards 77 = .ok (.ifCond .ge 13, 3) := by decide +kernel
theorem dX0_eighthTowards_80 : decode cX0_eighthTowards 80 = .ok (.lload_n 2, 1) := by decide +kernel
theorem dX0_eighthTowards_81 : decode cX0_eighthTowards 81 = .ok (.lneg, 1) := by decide +kernel
theorem dX0_eighthTowards_82 : decode cX0_eighthTowards 82 = .ok (.lload_n 0, 1) := by decide +kernel
theorem dX0_eighthTowards_83 : decode cX0_eighthTowards 83 = .ok (.lneg, 1) := by decide +kernel
theorem dX0_eighthTowards_84 : decode cX0_eighthTowards 84 = .ok (.lcmp, 1) := by decide +kernel
theorem dX0_eighthTowards_85 : decode cX0_eighthTowards 85 = .ok (.ifCond .lt 5, 3) := by decide +kernel
theorem dX0_eighthTowards_88 : decode cX0_eighthTowards 88 = .ok (.iconst 5, 1) := by decide +kernel
theorem dX0_eighthTowards_89 : decode cX0_eighthTowards 89 = .ok (.ireturn, 1) := by decide +kernel
theorem dX0_eighthTowards_90 : decode cX0_eighthTowards 90 = .ok (.lload_n 0, 1) := by decide +kernel
theorem dX0_eighthTowards_91 : decode cX0_eighthTowards 91 = .ok (.lconst 0, 1) := by decide +kernel
theorem dX0_eighthTowards_92 : decode cX0_eighthTowards 92 = .ok (.lcmp, 1) := by decide +kernel
theorem dX0_eighthTowards_93 : decode cX0_eighthTowards 93 = .ok (.ifCond .lt 13, 3) := by decide +kernel
theorem dX0_eighthTowards_96 : decode cX0_eighthTowards 96 = .ok (.lload_n 2, 1) := by decide +kernel
theorem dX0_eighthTowards_97 : decode cX0_eighthTowards 97 = .ok (.lneg, 1) := by decide +kernel
theorem dX0_eighthTowards_98 : decode cX0_eighthTowards 98 = .ok (.lload_n 0, 1) := by decide +kernel
theorem dX0_eighthTowards_99 : decode cX0_eighthTowards 99 = .ok (.lcmp, 1) := by decide +kernel
theorem dX0_eighthTowards_100 : decode cX0_eighthTowards 100 = .ok (.ifCond .le 6, 3) := by decide +kernel
theorem dX0_eighthTowards_103 : decode cX0_eighthTowards 103 = .ok (.bipush 6, 2) := by decide +kernel
theorem dX0_eighthTowards_105 : decode cX0_eighthTowards 105 = .ok (.ireturn, 1) := by decide +kernel
theorem dX0_eighthTowards_106 : decode cX0_eighthTowards 106 = .ok (.lload_n 2, 1) := by decide +kernel
theorem dX0_eighthTowards_107 : decode cX0_eighthTowards 107 = .ok (.lconst 0, 1) := by decide +kernel
theorem dX0_eighthTowards_108 : decode cX0_eighthTowards 108 = .ok (.lcmp, 1) := by decide +kernel
theorem dX0_eighthTowards_109 : decode cX0_eighthTowards 109 = .ok (.ifCond .ge 13, 3) := by decide +kernel
theorem dX0_eighthTowards_112 : decode cX0_eighthTowards 112 = .ok (.lload_n 0, 1) := by decide +kernel
theorem dX0_eighthTowards_113 : decode cX0_eighthTowards 113 = .ok (.lload_n 2, 1) := by decide +kernel
theorem dX0_eighthTowards_114 : decode cX0_eighthTowards 114 = .ok (.lneg, 1) := by decide +kernel
theorem dX0_eighthTowards_115 : decode cX0_eighthTowards 115 = .ok (.lcmp, 1) := by decide +kernel
theorem dX0_eighthTowards_116 : decode cX0_eighthTowards 116 = .ok (.ifCond .lt 6, 3) := by decide +kernel
theorem dX0_eighthTowards_119 : decode cX0_eighthTowards 119 = .ok (.bipush 7, 2) := by decide +kernel
theorem dX0_eighthTowards_121 : decode cX0_eighthTowards 121 = .ok (.ireturn, 1) := by decide +kernel
theorem dX0_eighthTowards_122 : decode cX0_eighthTowards 122 = .ok (.bipush (-6), 2) := by decide +kernel
theorem dX0_eighthTowards_124 : decode cX0_eighthTowards 124 = .ok (.ireturn, 1) := by decide +kernel
theorem dX1_init_0 : decode cX1_init 0 = .ok (.aload_n 0, 1) := by decide +kernel
theorem dX1_init_1 : decode cX1_init 1 = .ok (.invokespecial 3, 3) := by decide +kernel
theorem dX1_init_4 : decode cX1_init 4 = .ok (.aload_n 0, 1) := by decide +kernel
theorem dX1_init_5 : decode cX1_init 5 = .ok (.bipush 10, 2) := by decide +kernel
theorem dX1_init_7 : decode cX1_init 7 = .ok (.newarray .int, 2) := by decide +kernel
theorem dX1_init_9 : decode cX1_init 9 = .ok (.putfield 9, 3) := by decide +kernel
theorem dX1_init_12 : decode cX1_init 12 = .ok (.aload_n 0, 1) := by decide +kernel
theorem dX1_init_13 : decode cX1_init 13 = .ok (.bipush 10, 2) := by decide +kernel
theorem dX1_init_15 : decode cX1_init 15 = .ok (.newarray .int, 2) := by decide +kernel
theorem dX1_init_17 : decode cX1_init 17 = .ok (.putfield 15, 3) := by decide +kernel
theorem dX1_init_20 : decode cX1_init 20 = .ok (.aload_n 0, 1) := by decide +kernel
theorem dX1_init_21 : decode cX1_init 21 = .ok (.iconst 0, 1) := by decide +kernel
theorem dX1_init_22 : decode cX1_init 22 = .ok (.putfield 18, 3) := by decide +kernel
theorem dX1_init_25 : decode cX1_init 25 = .ok (.aload_n 0, 1) := by decide +kernel
theorem dX1_init_26 : decode cX1_init 26 = .ok (.iconst 0, 1) := by decide +kernel
theorem dX1_init_27 : decode cX1_init 27 = .ok (.putfield 22, 3) := by decide +kernel
theorem dX1_init_30 : decode cX1_init 30 = .ok (.aload_n 0, 1) := by decide +kernel
theorem dX1_init_31 : decode cX1_init 31 = .ok (.iconst 5, 1) := by decide +kernel
theorem dX1_init_32 : decode cX1_init 32 = .ok (.putfield 25, 3) := by decide +kernel
theorem dX1_init_35 : decode cX1_init 35 = .ok (.return_, 1) := by decide +kernel
theorem dX1_become_0 : decode cX1_become 0 = .ok (.iconst 0, 1) := by decide +kernel
theorem dX1_become_1 : decode cX1_become 1 = .ok (.istore_n 2, 1) := by decide +kernel
theorem dX1_become_2 : decode cX1_become 2 = .ok (.iload_n 2, 1) := by decide +kernel
theorem dX1_become_3 : decode cX1_become 3 = .ok (.bipush 10, 2) := by decide +kernel
theorem dX1_become_5 : decode cX1_become 5 = .ok (.if_icmp .ge 33, 3) := by decide +kernel
theorem dX1_become_8 : decode cX1_become 8 = .ok (.aload_n 0, 1) := by decide +kernel
theorem dX1_become_9 : decode cX1_become 9 = .ok (.getfield 9, 3) := by decide +kernel
theorem dX1_become_12 : decode cX1_become 12 = .ok (.iload_n 2, 1) := by decide +kernel
theorem dX1_become_13 : decode cX1_become 13 = .ok (.aload_n 1, 1) := by decide +kernel
theorem dX1_become_14 : decode cX1_become 14 = .ok (.getfield 9, 3) := by decide +kernel
theorem dX1_become_17 : decode cX1_become 17 = .ok (.iload_n 2, 1) := by decide +kernel
theorem dX1_become_18 : decode cX1_become 18 = .ok (.iaload, 1) := by decide +kernel
theorem dX1_become_19 : decode cX1_become 19 = .ok (.iastore, 1) := by decide +kernel
theorem dX1_become_20 : decode cX1_become 20 = .ok (.aload_n 0, 1) := by decide +kernel
theorem dX1_become_21 : decode cX1_become 21 = .ok (.getfield 15, 3) := by decide +kernel
theorem dX1_become_24 : decode cX1_become 24 = .ok (.iload_n 2, 1) := by decide +kernel
theorem dX1_become_25 : decode cX1_become 25 = .ok (.aload_n 1, 1) := by decide +kernel
theorem dX1_become_26 : decode cX1_become 26 = .ok (.getfield 15, 3) := by decide +kernel
theorem dX1_become_29 : decode cX1_become 29 = .ok (.iload_n 2, 1) := by decide +kernel
theorem dX1_become_30 : decode cX1_become 30 = .ok (.iaload, 1) := by decide +kernel
theorem dX1_become_31 : decode cX1_become 31 = .ok (.iastore, 1) := by decide +kernel
theorem dX1_become_32 : decode cX1_become 32 = .ok (.iinc 2 1, 3) := by decide +kernel
theorem dX1_become_35 : decode cX1_become 35 = .ok (.goto (-33), 3) := by decide +kernel
theorem dX1_become_38 : decode cX1_become 38 = .ok (.aload_n 0, 1) := by decide +kernel
theorem dX1_become_39 : decode cX1_become 39 = .ok (.aload_n 1, 1) := by decide +kernel
theorem dX1_become_40 : decode cX1_become 40 = .ok (.getfield 18, 3) := by decide +kernel
theorem dX1_become_43 : decode cX1_become 43 = .ok (.putfield 18, 3) := by decide +kernel
theorem dX1_become_46 : decode cX1_become 46 = .ok (.aload_n 0, 1) := by decide +kernel
theorem dX1_become_47 : decode cX1_become 47 = .ok (.aload_n 1, 1) := by decide +kernel
theorem dX1_become_48 : decode cX1_become 48 = .ok (.getfield 22, 3) := by decide +kernel
theorem dX1_become_51 : decode cX1_become 51 = .ok (.putfield 22, 3) := by decide +kernel
theorem dX1_become_54 : decode cX1_become 54 = .ok (.aload_n 0, 1) := by decide +kernel
theorem dX1_become_55 : decode cX1_become 55 = .ok (.aload_n 1, 1) := by decide +kernel
theorem dX1_become_56 : decode cX1_become 56 = .ok (.getfield 25, 3) := by decide +kernel
theorem dX1_become_59 : decode cX1_become 59 = .ok (.putfield 25, 3) := by decide +kernel
theorem dX1_become_62 : decode cX1_become 62 = .ok (.return_, 1) := by decide +kernel
set_option maxRecDepth 20000 in
theorem ggX2_init_X1_init : GoodIn wsX2_init wsX1_init := goodIn_r _ [18, 19, 2, 3, 20, 21, 22, 23, 24, 25, 29, 30, 31, 32, 33] (by decide +kernel) (by decide +kernel)
set_option maxRecDepth 20000 in
theorem gX2_init_X1_init : GoodIn wsX2_init (wsX1_init) := ggX2_init_X1_init
set_option maxRecDepth 20000 in
theorem ggX2_init_X0_init : GoodIn wsX2_init wsX0_init := goodIn_r _ [27, 28, 2, 3] (by decide +kernel) (by decide +kernel)
set_option maxRecDepth 20000 in
theorem gX2_init_X0_init_n28 : GoodIn wsX2_init (wsX0_init) := ggX2_init_X0_init
theorem dX2_init_0 : decode cX2_init 0 = .ok (.aload_n 0, 1) := by decide +kernel
theorem dX2_init_1 : decode cX2_init 1 = .ok (.invokespecial 3, 3) := by decide +kernel
theorem dX2_init_4 : decode cX2_init 4 = .ok (.aload_n 0, 1) := by decide +kernel
theorem dX2_init_5 : decode cX2_init 5 = .ok (.new 9, 3) := by decide +kernel
theorem dX2_init_8 : decode cX2_init 8 = .ok (.dup, 1) := by decide +kernel
theorem dX2_init_9 : decode cX2_init 9 = .ok (.invokespecial 11, 3) := by decide +kernel
theorem dX2_init_12 : decode cX2_init 12 = .ok (.putfield 12, 3) := by decide +kernel
theorem dX2_init_15 : decode cX2_init 15 = .ok (.aload_n 0, 1) := by decide +kernel
theorem dX2_init_16 : decode cX2_init 16 = .ok (.new 9, 3) := by decide +kernel
theorem dX2_init_19 : decode cX2_init 19 = .ok (.dup, 1) := by decide +kernel
theorem dX2_init_20 : decode cX2_init 20 = .ok (.invokespecial 11, 3) := by decide +kernel
theorem dX2_init_23 : decode cX2_init 23 = .ok (.putfield 16, 3) := by decide +kernel
theorem dX2_init_26 : decode cX2_init 26 = .ok (.aload_n 0, 1) := by decide +kernel
theorem dX2_init_27 : decode cX2_init 27 = .ok (.new 9, 3) := by decide +kernel
theorem dX2_init_30 : decode cX2_init 30 = .ok (.dup, 1) := by decide +kernel
theorem dX2_init_31 : decode cX2_init 31 = .ok (.invokespecial 11, 3) := by decide +kernel
theorem dX2_init_34 : decode cX2_init 34 = .ok (.putfield 19, 3) := by decide +kernel
theorem dX2_init_37 : decode cX2_init 37 = .ok (.aload_n 0, 1) := by decide +kernel
theorem dX2_init_38 : decode cX2_init 38 = .ok (.iconst 0, 1) := by decide +kernel
theorem dX2_init_39 : decode cX2_init 39 = .ok (.putfield 22, 3) := by decide +kernel
theorem dX2_init_42 : decode cX2_init 42 = .ok (.aload_n 0, 1) := by decide +kernel
theorem dX2_init_43 : decode cX2_init 43 = .ok (.new 26, 3) := by decide +kernel
theorem dX2_init_46 : decode cX2_init 46 = .ok (.dup, 1) := by decide +kernel
theorem dX2_init_47 : decode cX2_init 47 = .ok (.invokespecial 28, 3) := by decide +kernel
theorem dX2_init_50 : decode cX2_init 50 = .ok (.putfield 29, 3) := by decide +kernel
theorem dX2_init_53 : decode cX2_init 53 = .ok (.aload_n 0, 1) := by decide +kernel
theorem dX2_init_54 : decode cX2_init 54 = .ok (.new 26, 3) := by decide +kernel
theorem dX2_init_57 : decode cX2_init 57 = .ok (.dup, 1) := by decide +kernel
theorem dX2_init_58 : decode cX2_init 58 = .ok (.invokespecial 28, 3) := by decide +kernel
theorem dX2_init_61 : decode cX2_init 61 = .ok (.putfield 33, 3) := by decide +kernel
theorem dX2_init_64 : decode cX2_init 64 = .ok (.return_, 1) := by decide +kernel
set_option maxRecDepth 20000 in
theorem ggX2_add_X2_isPlace : GoodIn wsX2_add wsX2_isPlace := goodIn_r _ [9, 10, 11, 8, 12] (by decide +kernel) (by decide +kernel)
set_option maxRecDepth 20000 in
theorem gX2_add_X2_isPlace : GoodIn wsX2_add (va_wsS RX2 36 yX2_isPlace wsX2_isPlace) := goodIn_app (goodIn_of _ (by decide +kernel)) ggX2_add_X2_isPlace
theorem dX2_add_0 : decode cX2_add 0 = .ok (.iload_n 1, 1) := by decide +kernel
theorem dX2_add_1 : decode cX2_add 1 = .ok (.iload_n 2, 1) := by decide +kernel
theorem dX2_add_2 : decode cX2_add 2 = .ok (.invokestatic 36, 3) := by decide +kernel
theorem dX2_add_5 : decode cX2_add 5 = .ok (.ifCond .ne 6, 3) := by decide +kernel
theorem dX2_add_8 : decode cX2_add 8 = .ok (.bipush (-2), 2) := by decide +kernel
theorem dX2_add_10 : decode cX2_add 10 = .ok (.ireturn, 1) := by decide +kernel
theorem dX2_add_11 : decode cX2_add 11 = .ok (.aload_n 0, 1) := by decide +kernel
theorem dX2_add_12 : decode cX2_add 12 = .ok (.getfield 12, 3) := by decide +kernel
theorem dX2_add_15 : decode cX2_add 15 = .ok (.getfield 40, 3) := by decide +kernel
theorem dX2_add_18 : decode cX2_add 18 = .ok (.istore_n 3, 1) := by decide +kernel
theorem dX2_add_19 : decode cX2_add 19 = .ok (.iload_n 3, 1) := by decide +kernel
theorem dX2_add_20 : decode cX2_add 20 = .ok (.ifCond .lt 9, 3) := by decide +kernel
theorem dX2_add_23 : decode cX2_add 23 = .ok (.iload_n 3, 1) := by decide +kernel
theorem dX2_add_24 : decode cX2_add 24 = .ok (.bipush 10, 2) := by decide +kernel
theorem dX2_add_26 : decode cX2_add 26 = .ok (.if_icmp .lt 6, 3) := by decide +kernel
theorem dX2_add_29 : decode cX2_add 29 = .ok (.bipush (-4), 2) := by decide +kernel
theorem dX2_add_31 : decode cX2_add 31 = .ok (.ireturn, 1) := by decide +kernel
theorem dX2_add_32 : decode cX2_add 32 = .ok (.aload_n 0, 1) := by decide +kernel
theorem dX2_add_33 : decode cX2_add 33 = .ok (.getfield 12, 3) := by decide +kernel
theorem dX2_add_36 : decode cX2_add 36 = .ok (.getfield 43, 3) := by decide +kernel
theorem dX2_add_39 : decode cX2_add 39 = .ok (.iload_n 3, 1) := by decide +kernel
theorem dX2_add_40 : decode cX2_add 40 = .ok (.iload_n 1, 1) := by decide +kernel
theorem dX2_add_41 : decode cX2_add 41 = .ok (.iastore, 1) := by decide +kernel
theorem dX2_add_42 : decode cX2_add 42 = .ok (.aload_n 0, 1) := by decide +kernel
theorem dX2_add_43 : decode cX2_add 43 = .ok (.getfield 12, 3) := by decide +kernel
theorem dX2_add_46 : decode cX2_add 46 = .ok (.getfield 47, 3) := by decide +kernel
theorem dX2_add_49 : decode cX2_add 49 = .ok (.iload_n 3, 1) := by decide +kernel
theorem dX2_add_50 : decode cX2_add 50 = .ok (.iload_n 2, 1) := by decide +kernel
theorem dX2_add_51 : decode cX2_add 51 = .ok (.iastore, 1) := by decide +kernel
theorem dX2_add_52 : decode cX2_add 52 = .ok (.aload_n 0, 1) := by decide +kernel
theorem dX2_add_53 : decode cX2_add 53 = .ok (.getfield 12, 3) := by decide +kernel
theorem dX2_add_56 : decode cX2_add 56 = .ok (.dup, 1) := by decide +kernel
theorem dX2_add_57 : decode cX2_add 57 = .ok (.getfield 50, 3) := by decide +kernel
theorem dX2_add_60 : decode cX2_add 60 = .ok (.iconst 1, 1) := by decide +kernel
theorem dX2_add_61 : decode cX2_add 61 = .ok (.iload_n 3, 1) := by decide +kernel
theorem dX2_add_62 : decode cX2_add 62 = .ok (.ishl, 1) := by decide +kernel
theorem dX2_add_63 : decode cX2_add 63 = .ok (.ior, 1) := by decide +kernel
theorem dX2_add_64 : decode cX2_add 64 = .ok (.putfield 50, 3) := by decide +kernel
theorem dX2_add_67 : decode cX2_add 67 = .ok (.aload_n 0, 1) := by decide +kernel
theorem dX2_add_68 : decode cX2_add 68 = .ok (.getfield 12, 3) := by decide +kernel
theorem dX2_add_71 : decode cX2_add 71 = .ok (.iload_n 3, 1) := by decide +kernel
theorem dX2_add_72 : decode cX2_add 72 = .ok (.iconst 1, 1) := by decide +kernel
theorem dX2_add_73 : decode cX2_add 73 = .ok (.iadd, 1) := by decide +kernel
theorem dX2_add_74 : decode cX2_add 74 = .ok (.putfield 40, 3) := by decide +kernel
theorem dX2_add_77 : decode cX2_add 77 = .ok (.iload_n 3, 1) := by decide +kernel
theorem dX2_add_78 : decode cX2_add 78 = .ok (.ireturn, 1) := by decide +kernel
theorem dX2_clear_0 : decode cX2_clear 0 = .ok (.aload_n 0, 1) := by decide +kernel
theorem dX2_clear_1 : decode cX2_clear 1 = .ok (.getfield 12, 3) := by decide +kernel
theorem dX2_clear_4 : decode cX2_clear 4 = .ok (.getfield 40, 3) := by decide +kernel
theorem dX2_clear_7 : decode cX2_clear 7 = .ok (.istore_n 1, 1) := by decide +kernel
theorem dX2_clear_8 : decode cX2_clear 8 = .ok (.aload_n 0, 1) := by decide +kernel
theorem dX2_clear_9 : decode cX2_clear 9 = .ok (.getfield 12, 3) := by decide +kernel
theorem dX2_clear_12 : decode cX2_clear 12 = .ok (.iconst 0, 1) := by decide +kernel
theorem dX2_clear_13 : decode cX2_clear 13 = .ok (.putfield 40, 3) := by decide +kernel
theorem dX2_clear_16 : decode cX2_clear 16 = .ok (.aload_n 0, 1) := by decide +kernel
theorem dX2_clear_17 : decode cX2_clear 17 = .ok (.getfield 12, 3) := by decide +kernel
theorem dX2_clear_20 : decode cX2_clear 20 = .ok (.iconst 0, 1) := by decide +kernel
theorem dX2_clear_21 : decode cX2_clear 21 = .ok (.putfield 50, 3) := by decide +kernel
theorem dX2_clear_24 : decode cX2_clear 24 = .ok (.iload_n 1, 1) := by decide +kernel
theorem dX2_clear_25 : decode cX2_clear 25 = .ok (.ireturn, 1) := by decide +kernel
set_option maxRecDepth 20000 in
theorem ggX2_take_X2_isSample : GoodIn wsX2_take wsX2_isSample := goodIn_r _ [7, 1, 8, 19, 20, 21, 22, 23, 24, 25, 26, 27, 28, 29] (by decide +kernel) (by decide +kernel)
set_option maxRecDepth 20000 in
theorem gX2_take_X2_isSample : GoodIn wsX2_take (wsV RX2 53 RX2 yX2_isSample wsX2_isSample) := goodIn_app (goodIn_of _ (by decide +kernel)) ggX2_take_X2_isSample
set_option maxRecDepth 20000 in
theorem ggX2_take_X2_isBetween : GoodIn wsX2_take wsX2_isBetween := goodIn_r _ [11] (by decide +kernel) (by decide +kernel)
set_option maxRecDepth 20000 in
theorem gX2_take_X2_isBetween : GoodIn wsX2_take (va_wsS RX2 57 yX2_isBetween wsX2_isBetween) := goodIn_app (goodIn_of _ (by decide +kernel)) ggX2_take_X2_isBetween
set_option maxRecDepth 20000 in
theorem ggX2_take_J6_bitCount_0f7a4 : GoodIn wsX2_take wsJ6_bitCount_0f7a4 := goodIn_r _ [15, 16, 17, 18] (by decide +kernel) (by decide +kernel)
set_option maxRecDepth 20000 in
theorem gX2_take_J6_bitCount_0f7a4 : GoodIn wsX2_take (va_wsS RX2 61 yJ6_bitCount_0f7a4 wsJ6_bitCount_0f7a4) := goodIn_app (goodIn_of _ (by decide +kernel)) ggX2_take_J6_bitCount_0f7a4
theorem dX2_take_0 : decode cX2_take 0 = .ok (.aload_n 0, 1) := by decide +kernel
theorem dX2_take_1 : decode cX2_take 1 = .ok (.iload_n 1, 1) := by decide +kernel
theorem dX2_take_2 : decode cX2_take 2 = .ok (.invokevirtual 53, 3) := by decide +kernel
theorem dX2_take_5 : decode cX2_take 5 = .ok (.ifCond .ne 5, 3) := by decide +kernel
theorem dX2_take_8 : decode cX2_take 8 = .ok (.iconst (-1), 1) := by decide +kernel
theorem dX2_take_9 : decode cX2_take 9 = .ok (.ireturn, 1) := by decide +kernel
theorem dX2_take_10 : decode cX2_take 10 = .ok (.iload_n 2, 1) := by decide +kernel
theorem dX2_take_11 : decode cX2_take 11 = .ok (.iconst 0, 1) := by decide +kernel
theorem dX2_take_12 : decode cX2_take 12 = .ok (.iconst 1, 1) := by decide +kernel
theorem dX2_take_13 : decode cX2_take 13 = .ok (.invokestatic 57, 3) := by decide +kernel
theorem dX2_take_16 : decode cX2_take 16 = .ok (.ifCond .ne 6, 3) := by decide +kernel
theorem dX2_take_19 : decode cX2_take 19 = .ok (.bipush (-2), 2) := by decide +kernel
theorem dX2_take_21 : decode cX2_take 21 = .ok (.ireturn, 1) := by decide +kernel
theorem dX2_take_22 : decode cX2_take 22 = .ok (.iload_n 2, 1) := by decide +kernel
theorem dX2_take_23 : decode cX2_take 23 = .ok (.iconst 1, 1) := by decide +kernel
theorem dX2_take_24 : decode cX2_take 24 = .ok (.if_icmp .ne 21, 3) := by decide +kernel
theorem dX2_take_27 : decode cX2_take 27 = .ok (.aload_n 0, 1) := by decide +kernel
theorem dX2_take_28 : decode cX2_take 28 = .ok (.getfield 12, 3) := by decide +kernel
theorem dX2_take_31 : decode cX2_take 31 = .ok (.dup, 1) := by decide +kernel
theorem dX2_take_32 : decode cX2_take 32 = .ok (.getfield 50, 3) := by decide +kernel
theorem dX2_take_35 : decode cX2_take 35 = .ok (.iconst 1, 1) := by decide +kernel
theorem dX2_take_36 : decode cX2_take 36 = .ok (.iload_n 1, 1) := by decide +kernel
theorem dX2_take_37 : decode cX2_take 37 = .ok (.ishl, 1) := by decide +kernel
theorem dX2_take_38 : decode cX2_take 38 = .ok (.ior, 1) := by decide +kernel
theorem dX2_take_39 : decode cX2_take 39 = .ok (.putfield 50, 3) := by decide +kernel
theorem dX2_take_42 : decode cX2_take 42 = .ok (.goto 20, 3) := by decide +kernel
theorem dX2_take_45 : decode cX2_take 45 = .ok (.aload_n 0, 1) := by decide +kernel
theorem dX2_take_46 : decode cX2_take 46 = .ok (.getfield 12, 3) := by decide +kernel
theorem dX2_take_49 : decode cX2_take 49 = .ok (.dup, 1) := by decide +kernel
theorem dX2_take_50 : decode cX2_take 50 = .ok (.getfield 50, 3) := by decide +kernel
theorem dX2_take_53 : decode cX2_take 53 = .ok (.iconst 1, 1) := by decide +kernel
theorem dX2_take_54 : decode cX2_take 54 = .ok (.iload_n 1, 1) := by decide +kernel
theorem dX2_take_55 : decode cX2_take 55 = .ok (.ishl, 1) := by decide +kernel
theorem dX2_take_56 : decode cX2_take 56 = .ok (.iconst (-1), 1) := by decide +kernel
theorem dX2_take_57 : decode cX2_take 57 = .ok (.ixor, 1) := by decide +kernel
theorem dX2_take_58 : decode cX2_take 58 = .ok (.iand, 1) := by decide +kernel
theorem dX2_take_59 : decode cX2_take 59 = .ok (.putfield 50, 3) := by decide +kernel
theorem dX2_take_62 : decode cX2_take 62 = .ok (.aload_n 0, 1) := by decide +kernel
theorem dX2_take_63 : decode cX2_take 63 = .ok (.getfield 12, 3) := by decide +kernel
theorem dX2_take_66 : decode cX2_take 66 = .ok (.getfield 50, 3) := by decide +kernel
theorem dX2_take_69 : decode cX2_take 69 = .ok (.invokestatic 61, 3) := by decide +kernel
theorem dX2_take_72 : decode cX2_take 72 = .ok (.ireturn, 1) := by decide +kernel
set_option maxRecDepth 20000 in
theorem ggX2_of_X2_isSample : GoodIn wsX2_of wsX2_isSample := goodIn_r _ [9, 1, 10, 17, 18, 19, 20, 21, 22, 23, 24, 25, 26, 27] (by decide +kernel) (by decide +kernel)
set_option maxRecDepth 20000 in
theorem gX2_of_X2_isSample : GoodIn wsX2_of (wsV RX2 53 RX2 yX2_isSample wsX2_isSample) := goodIn_app (goodIn_of _ (by decide +kernel)) ggX2_of_X2_isSample
set_option maxRecDepth 20000 in
theorem ggX2_of_X2_isIn : GoodIn wsX2_of wsX2_isIn := goodIn_r _ [13] (by decide +kernel) (by decide +kernel)
set_option maxRecDepth 20000 in
theorem gX2_of_X2_isIn : GoodIn wsX2_of (va_wsS RX2 67 yX2_isIn wsX2_isIn) := goodIn_app (goodIn_of _ (by decide +kernel)) ggX2_of_X2_isIn
set_option maxRecDepth 20000 in
theorem ggX2_of_X2_powerAt : GoodIn wsX2_of wsX2_powerAt := goodIn_r _ [16] (by decide +kernel) (by decide +kernel)
set_option maxRecDepth 20000 in
theorem gX2_of_X2_powerAt : GoodIn wsX2_of (va_wsS RX2 70 yX2_powerAt wsX2_powerAt) := goodIn_app (goodIn_of _ (by decide +kernel)) ggX2_of_X2_powerAt
theorem dX2_of_0 : decode cX2_of 0 = .ok (.aload_n 0, 1) := by decide +kernel
theorem dX2_of_1 : decode cX2_of 1 = .ok (.iload_n 1, 1) := by decide +kernel
theorem dX2_of_2 : decode cX2_of 2 = .ok (.invokevirtual 53, 3) := by decide +kernel
theorem dX2_of_5 : decode cX2_of 5 = .ok (.ifCond .ne 5, 3) := by decide +kernel
theorem dX2_of_8 : decode cX2_of 8 = .ok (.iconst (-1), 1) := by decide +kernel
theorem dX2_of_9 : decode cX2_of 9 = .ok (.ireturn, 1) := by decide +kernel
theorem dX2_of_10 : decode cX2_of 10 = .ok (.iload_n 2, 1) := by decide +kernel
theorem dX2_of_11 : decode cX2_of 11 = .ok (.tableswitch 97 0 3 #[29, 42, 55, 75], 29) := by decide +kernel
theorem dX2_of_40 : decode cX2_of 40 = .ok (.aload_n 0, 1) := by decide +kernel
theorem dX2_of_41 : decode cX2_of 41 = .ok (.getfield 12, 3) := by decide +kernel
theorem dX2_of_44 : decode cX2_of 44 = .ok (.getfield 43, 3) := by decide +kernel
theorem dX2_of_47 : decode cX2_of 47 = .ok (.iload_n 1, 1) := by decide +kernel
theorem dX2_of_48 : decode cX2_of 48 = .ok (.iaload, 1) := by decide +kernel
theorem dX2_of_49 : decode cX2_of 49 = .ok (.bipush 100, 2) := by decide +kernel
theorem dX2_of_51 : decode cX2_of 51 = .ok (.iadd, 1) := by decide +kernel
theorem dX2_of_52 : decode cX2_of 52 = .ok (.ireturn, 1) := by decide +kernel
theorem dX2_of_53 : decode cX2_of 53 = .ok (.aload_n 0, 1) := by decide +kernel
theorem dX2_of_54 : decode cX2_of 54 = .ok (.getfield 12, 3) := by decide +kernel
theorem dX2_of_57 : decode cX2_of 57 = .ok (.getfield 47, 3) := by decide +kernel
theorem dX2_of_60 : decode cX2_of 60 = .ok (.iload_n 1, 1) := by decide +kernel
theorem dX2_of_61 : decode cX2_of 61 = .ok (.iaload, 1) := by decide +kernel
theorem dX2_of_62 : decode cX2_of 62 = .ok (.bipush 100, 2) := by decide +kernel
theorem dX2_of_64 : decode cX2_of 64 = .ok (.iadd, 1) := by decide +kernel
theorem dX2_of_65 : decode cX2_of 65 = .ok (.ireturn, 1) := by decide +kernel
theorem dX2_of_66 : decode cX2_of 66 = .ok (.aload_n 0, 1) := by decide +kernel
theorem dX2_of_67 : decode cX2_of 67 = .ok (.getfield 12, 3) := by decide +kernel
theorem dX2_of_70 : decode cX2_of 70 = .ok (.getfield 50, 3) := by decide +kernel
theorem dX2_of_73 : decode cX2_of 73 = .ok (.iload_n 1, 1) := by decide +kernel
theorem dX2_of_74 : decode cX2_of 74 = .ok (.invokestatic 67, 3) := by decide +kernel
theorem dX2_of_77 : decode cX2_of 77 = .ok (.ifCond .eq 7, 3) := by decide +kernel
theorem dX2_of_80 : decode cX2_of 80 = .ok (.iconst 1, 1) := by decide +kernel
theorem dX2_of_81 : decode cX2_of 81 = .ok (.goto 4, 3) := by decide +kernel
theorem dX2_of_84 : decode cX2_of 84 = .ok (.iconst 0, 1) := by decide +kernel
theorem dX2_of_85 : decode cX2_of 85 = .ok (.ireturn, 1) := by decide +kernel
theorem dX2_of_86 : decode cX2_of 86 = .ok (.aload_n 0, 1) := by decide +kernel
theorem dX2_of_87 : decode cX2_of 87 = .ok (.getfield 12, 3) := by decide +kernel
theorem dX2_of_90 : decode cX2_of 90 = .ok (.getfield 43, 3) := by decide +kernel
theorem dX2_of_93 : decode cX2_of 93 = .ok (.iload_n 1, 1) := by decide +kernel
theorem dX2_of_94 : decode cX2_of 94 = .ok (.iaload, 1) := by decide +kernel
theorem dX2_of_95 : decode cX2_of 95 = .ok (.aload_n 0, 1) := by decide +kernel
theorem dX2_of_96 : decode cX2_of 96 = .ok (.getfield 12, 3) := by decide +kernel
theorem dX2_of_99 : decode cX2_of 99 = .ok (.getfield 47, 3) := by decide +kernel
theorem dX2_of_102 : decode cX2_of 102 = .ok (.iload_n 1, 1) := by decide +kernel
theorem dX2_of_103 : decode cX2_of 103 = .ok (.iaload, 1) := by decide +kernel
theorem dX2_of_104 : decode cX2_of 104 = .ok (.invokestatic 70, 3) := by decide +kernel
theorem dX2_of_107 : decode cX2_of 107 = .ok (.ireturn, 1) := by decide +kernel
theorem dX2_of_108 : decode cX2_of 108 = .ok (.bipush (-2), 2) := by decide +kernel
theorem dX2_of_110 : decode cX2_of 110 = .ok (.ireturn, 1) := by decide +kernel
set_option maxRecDepth 20000 in
theorem ggX2_round_X2_isBetween : GoodIn wsX2_round wsX2_isBetween := goodIn_r _ [11] (by decide +kernel) (by decide +kernel)
set_option maxRecDepth 20000 in
theorem gX2_round_X2_isBetween : GoodIn wsX2_round (va_wsS RX2 57 yX2_isBetween wsX2_isBetween) := goodIn_app (goodIn_of _ (by decide +kernel)) ggX2_round_X2_isBetween
set_option maxRecDepth 20000 in
theorem ggX2_round_X2_layTheRound : GoodIn wsX2_round wsX2_layTheRound := goodIn_r _ [15, 2, 16, 17, 18, 19, 20, 10, 21, 22, 23, 24, 25, 26, 27, 28, 29, 30, 31, 32, 33, 34, 35, 36, 37, 38, 39, 40, 41, 42, 43, 44, 45, 46, 47, 48, 49, 50, 51, 52, 53, 54, 73, 74, 75, 76, 77, 78, 92, 93, 94, 95, 96, 79, 80, 81, 82, 83, 84, 85, 86, 87, 88, 89, 90, 91] (by decide +kernel) (by decide +kernel)
set_option maxRecDepth 20000 in
theorem gX2_round_X2_layTheRound : GoodIn wsX2_round (wsV RX2 76 RX2 yX2_layTheRound wsX2_layTheRound) := goodIn_app (goodIn_of _ (by decide +kernel)) ggX2_round_X2_layTheRound
set_option maxRecDepth 20000 in
theorem ggX2_round_X0_isFlat : GoodIn wsX2_round wsX0_isFlat := goodIn_r _ [58, 51, 79, 80, 81, 82, 83, 84, 85, 86, 87, 88, 89, 90, 91] (by decide +kernel) (by decide +kernel)
set_option maxRecDepth 20000 in
theorem gX2_round_X0_isFlat : GoodIn wsX2_round (wsV RX2 79 RX0 yX0_isFlat wsX0_isFlat) := goodIn_app (goodIn_of _ (by decide +kernel)) ggX2_round_X0_isFlat
set_option maxRecDepth 20000 in
theorem ggX2_round_X0_fullLower : GoodIn wsX2_round wsX0_fullLower := goodIn_r _ [62, 29, 51, 79, 80, 81, 82, 83, 84, 85, 86, 87, 88, 89, 90, 91] (by decide +kernel) (by decide +kernel)
set_option maxRecDepth 20000 in
theorem gX2_round_X0_fullLower : GoodIn wsX2_round (wsV RX2 89 RX0 yX0_fullLower wsX0_fullLower) := goodIn_app (goodIn_of _ (by decide +kernel)) ggX2_round_X0_fullLower
set_option maxRecDepth 20000 in
theorem ggX2_round_X2_partOfLowest : GoodIn wsX2_round wsX2_partOfLowest := goodIn_r _ [65, 66, 67, 68, 69, 70, 71, 10, 72] (by decide +kernel) (by decide +kernel)
set_option maxRecDepth 20000 in
theorem gX2_round_X2_partOfLowest : GoodIn wsX2_round (va_wsS RX2 93 yX2_partOfLowest wsX2_partOfLowest) := goodIn_app (goodIn_of _ (by decide +kernel)) ggX2_round_X2_partOfLowest
theorem dX2_round_0 : decode cX2_round 0 = .ok (.iload_n 1, 1) := by decide +kernel
theorem dX2_round_1 : decode cX2_round 1 = .ok (.iconst 0, 1) := by decide +kernel
theorem dX2_round_2 : decode cX2_round 2 = .ok (.iconst 2, 1) := by decide +kernel
theorem dX2_round_3 : decode cX2_round 3 = .ok (.invokestatic 57, 3) := by decide +kernel
theorem dX2_round_6 : decode cX2_round 6 = .ok (.ifCond .eq 12, 3) := by decide +kernel
theorem dX2_round_9 : decode cX2_round 9 = .ok (.iload_n 2, 1) := by decide +kernel
theorem dX2_round_10 : decode cX2_round 10 = .ok (.iconst 0, 1) := by decide +kernel
theorem dX2_round_11 : decode cX2_round 11 = .ok (.iconst 1, 1) := by decide +kernel
theorem dX2_round_12 : decode cX2_round 12 = .ok (.invokestatic 57, 3) := by decide +kernel
theorem dX2_round_15 : decode cX2_round 15 = .ok (.ifCond .ne 7, 3) := by decide +kernel
theorem dX2_round_18 : decode cX2_round 18 = .ok (.ldc2_w 74, 3) := by decide +kernel
theorem dX2_round_21 : decode cX2_round 21 = .ok (.lreturn, 1) := by decide +kernel
theorem dX2_round_22 : decode cX2_round 22 = .ok (.aload_n 0, 1) := by decide +kernel
theorem dX2_round_23 : decode cX2_round 23 = .ok (.invokevirtual 76, 3) := by decide +kernel
theorem dX2_round_26 : decode cX2_round 26 = .ok (.aload_n 0, 1) := by decide +kernel
theorem dX2_round_27 : decode cX2_round 27 = .ok (.getfield 29, 3) := by decide +kernel
theorem dX2_round_30 : decode cX2_round 30 = .ok (.invokevirtual 79, 3) := by decide +kernel
theorem dX2_round_33 : decode cX2_round 33 = .ok (.ifCond .eq 7, 3) := by decide +kernel
theorem dX2_round_36 : decode cX2_round 36 = .ok (.ldc2_w 83, 3) := by decide +kernel
theorem dX2_round_39 : decode cX2_round 39 = .ok (.lreturn, 1) := by decide +kernel
theorem dX2_round_40 : decode cX2_round 40 = .ok (.iload_n 1, 1) := by decide +kernel
theorem dX2_round_41 : decode cX2_round 41 = .ok (.iconst 2, 1) := by decide +kernel
theorem dX2_round_42 : decode cX2_round 42 = .ok (.if_icmp .ne 22, 3) := by decide +kernel
theorem dX2_round_45 : decode cX2_round 45 = .ok (.aload_n 0, 1) := by decide +kernel
theorem dX2_round_46 : decode cX2_round 46 = .ok (.getfield 29, 3) := by decide +kernel
theorem dX2_round_49 : decode cX2_round 49 = .ok (.getfield 85, 3) := by decide +kernel
theorem dX2_round_52 : decode cX2_round 52 = .ok (.aload_n 0, 1) := by decide +kernel
theorem dX2_round_53 : decode cX2_round 53 = .ok (.getfield 29, 3) := by decide +kernel
theorem dX2_round_56 : decode cX2_round 56 = .ok (.invokevirtual 89, 3) := by decide +kernel
theorem dX2_round_59 : decode cX2_round 59 = .ok (.iload_n 2, 1) := by decide +kernel
theorem dX2_round_60 : decode cX2_round 60 = .ok (.invokestatic 93, 3) := by decide +kernel
theorem dX2_round_63 : decode cX2_round 63 = .ok (.lreturn, 1) := by decide +kernel
theorem dX2_round_64 : decode cX2_round 64 = .ok (.iload_n 1, 1) := by decide +kernel
theorem dX2_round_65 : decode cX2_round 65 = .ok (.ifCond .ne 13, 3) := by decide +kernel
theorem dX2_round_68 : decode cX2_round 68 = .ok (.aload_n 0, 1) := by decide +kernel
theorem dX2_round_69 : decode cX2_round 69 = .ok (.getfield 29, 3) := by decide +kernel
theorem dX2_round_72 : decode cX2_round 72 = .ok (.getfield 97, 3) := by decide +kernel
theorem dX2_round_75 : decode cX2_round 75 = .ok (.goto 10, 3) := by decide +kernel
theorem dX2_round_78 : decode cX2_round 78 = .ok (.aload_n 0, 1) := by decide +kernel
theorem dX2_round_79 : decode cX2_round 79 = .ok (.getfield 29, 3) := by decide +kernel
theorem dX2_round_82 : decode cX2_round 82 = .ok (.getfield 100, 3) := by decide +kernel
theorem dX2_round_85 : decode cX2_round 85 = .ok (.aload_n 0, 1) := by decide +kernel
theorem dX2_round_86 : decode cX2_round 86 = .ok (.getfield 29, 3) := by decide +kernel
theorem dX2_round_89 : decode cX2_round 89 = .ok (.getfield 103, 3) := by decide +kernel
theorem dX2_round_92 : decode cX2_round 92 = .ok (.iload_n 2, 1) := by decide +kernel
theorem dX2_round_93 : decode cX2_round 93 = .ok (.invokestatic 93, 3) := by decide +kernel
theorem dX2_round_96 : decode cX2_round 96 = .ok (.lreturn, 1) := by decide +kernel
set_option maxRecDepth 20000 in
theorem ggX2_middle_X2_isBetween : GoodIn wsX2_middle wsX2_isBetween := goodIn_r _ [11] (by decide +kernel) (by decide +kernel)
set_option maxRecDepth 20000 in
theorem gX2_middle_X2_isBetween : GoodIn wsX2_middle (va_wsS RX2 57 yX2_isBetween wsX2_isBetween) := goodIn_app (goodIn_of _ (by decide +kernel)) ggX2_middle_X2_isBetween
set_option maxRecDepth 20000 in
theorem ggX2_middle_X2_layTheRound : GoodIn wsX2_middle wsX2_layTheRound := goodIn_r _ [15, 2, 16, 17, 18, 19, 20, 10, 21, 22, 23, 24, 25, 26, 27, 28, 29, 30, 31, 32, 33, 34, 35, 36, 37, 38, 39, 40, 41, 42, 43, 44, 45, 46, 47, 48, 49, 50, 51, 52, 53, 54, 69, 70, 71, 72, 73, 74, 88, 89, 90, 91, 92, 75, 76, 77, 78, 79, 80, 81, 82, 83, 84, 85, 86, 87] (by decide +kernel) (by decide +kernel)
set_option maxRecDepth 20000 in
theorem gX2_middle_X2_layTheRound : GoodIn wsX2_middle (wsV RX2 76 RX2 yX2_layTheRound wsX2_layTheRound) := goodIn_app (goodIn_of _ (by decide +kernel)) ggX2_middle_X2_layTheRound
set_option maxRecDepth 20000 in
theorem ggX2_middle_X0_isFlat : GoodIn wsX2_middle wsX0_isFlat := goodIn_r _ [58, 51, 75, 76, 77, 78, 79, 80, 81, 82, 83, 84, 85, 86, 87] (by decide +kernel) (by decide +kernel)
set_option maxRecDepth 20000 in
theorem gX2_middle_X0_isFlat : GoodIn wsX2_middle (wsV RX2 79 RX0 yX0_isFlat wsX0_isFlat) := goodIn_app (goodIn_of _ (by decide +kernel)) ggX2_middle_X0_isFlat
set_option maxRecDepth 20000 in
theorem ggX2_middle_X2_partOfLowest : GoodIn wsX2_middle wsX2_partOfLowest := goodIn_r _ [61, 62, 63, 64, 65, 66, 67, 10, 68] (by decide +kernel) (by decide +kernel)
set_option maxRecDepth 20000 in
theorem gX2_middle_X2_partOfLowest : GoodIn wsX2_middle (va_wsS RX2 93 yX2_partOfLowest wsX2_partOfLowest) := goodIn_app (goodIn_of _ (by decide +kernel)) ggX2_middle_X2_partOfLowest
theorem dX2_middle_0 : decode cX2_middle 0 = .ok (.iload_n 1, 1) := by decide +kernel
theorem dX2_middle_1 : decode cX2_middle 1 = .ok (.iconst 0, 1) := by decide +kernel
theorem dX2_middle_2 : decode cX2_middle 2 = .ok (.iconst 1, 1) := by decide +kernel
theorem dX2_middle_3 : decode cX2_middle 3 = .ok (.invokestatic 57, 3) := by decide +kernel
theorem dX2_middle_6 : decode cX2_middle 6 = .ok (.ifCond .eq 12, 3) := by decide +kernel
theorem dX2_middle_9 : decode cX2_middle 9 = .ok (.iload_n 2, 1) := by decide +kernel
theorem dX2_middle_10 : decode cX2_middle 10 = .ok (.iconst 0, 1) := by decide +kernel
theorem dX2_middle_11 : decode cX2_middle 11 = .ok (.iconst 1, 1) := by decide +kernel
theorem dX2_middle_12 : decode cX2_middle 12 = .ok (.invokestatic 57, 3) := by decide +kernel
theorem dX2_middle_15 : decode cX2_middle 15 = .ok (.ifCond .ne 7, 3) := by decide +kernel
theorem dX2_middle_18 : decode cX2_middle 18 = .ok (.ldc2_w 74, 3) := by decide +kernel
theorem dX2_middle_21 : decode cX2_middle 21 = .ok (.lreturn, 1) := by decide +kernel
theorem dX2_middle_22 : decode cX2_middle 22 = .ok (.aload_n 0, 1) := by decide +kernel
theorem dX2_middle_23 : decode cX2_middle 23 = .ok (.invokevirtual 76, 3) := by decide +kernel
theorem dX2_middle_26 : decode cX2_middle 26 = .ok (.aload_n 0, 1) := by decide +kernel
theorem dX2_middle_27 : decode cX2_middle 27 = .ok (.getfield 29, 3) := by decide +kernel
theorem dX2_middle_30 : decode cX2_middle 30 = .ok (.invokevirtual 79, 3) := by decide +kernel
theorem dX2_middle_33 : decode cX2_middle 33 = .ok (.ifCond .eq 7, 3) := by decide +kernel
theorem dX2_middle_36 : decode cX2_middle 36 = .ok (.ldc2_w 83, 3) := by decide +kernel
theorem dX2_middle_39 : decode cX2_middle 39 = .ok (.lreturn, 1) := by decide +kernel
theorem dX2_middle_40 : decode cX2_middle 40 = .ok (.iload_n 1, 1) := by decide +kernel
theorem dX2_middle_41 : decode cX2_middle 41 = .ok (.ifCond .ne 13, 3) := by decide +kernel
theorem dX2_middle_44 : decode cX2_middle 44 = .ok (.aload_n 0, 1) := by decide +kernel
theorem dX2_middle_45 : decode cX2_middle 45 = .ok (.getfield 29, 3) := by decide +kernel
theorem dX2_middle_48 : decode cX2_middle 48 = .ok (.getfield 97, 3) := by decide +kernel
theorem dX2_middle_51 : decode cX2_middle 51 = .ok (.goto 10, 3) := by decide +kernel
theorem dX2_middle_54 : decode cX2_middle 54 = .ok (.aload_n 0, 1) := by decide +kernel
theorem dX2_middle_55 : decode cX2_middle 55 = .ok (.getfield 29, 3) := by decide +kernel
theorem dX2_middle_58 : decode cX2_middle 58 = .ok (.getfield 100, 3) := by decide +kernel
theorem dX2_middle_61 : decode cX2_middle 61 = .ok (.ldc2_w 106, 3) := by decide +kernel
theorem dX2_middle_64 : decode cX2_middle 64 = .ok (.aload_n 0, 1) := by decide +kernel
theorem dX2_middle_65 : decode cX2_middle 65 = .ok (.getfield 29, 3) := by decide +kernel
theorem dX2_middle_68 : decode cX2_middle 68 = .ok (.getfield 103, 3) := by decide +kernel
theorem dX2_middle_71 : decode cX2_middle 71 = .ok (.lmul, 1) := by decide +kernel
theorem dX2_middle_72 : decode cX2_middle 72 = .ok (.iload_n 2, 1) := by decide +kernel
theorem dX2_middle_73 : decode cX2_middle 73 = .ok (.invokestatic 93, 3) := by decide +kernel
theorem dX2_middle_76 : decode cX2_middle 76 = .ok (.lreturn, 1) := by decide +kernel
set_option maxRecDepth 20000 in
theorem ggX2_off_X2_isSample : GoodIn wsX2_off wsX2_isSample := goodIn_r _ [12, 5, 13, 79, 80, 81, 82, 83, 84, 85, 86, 87, 88, 89] (by decide +kernel) (by decide +kernel)
set_option maxRecDepth 20000 in
theorem gX2_off_X2_isSample : GoodIn wsX2_off (wsV RX2 53 RX2 yX2_isSample wsX2_isSample) := goodIn_app (goodIn_of _ (by decide +kernel)) ggX2_off_X2_isSample
set_option maxRecDepth 20000 in
theorem ggX2_off_X2_isBetween : GoodIn wsX2_off wsX2_isBetween := goodIn_r _ [16] (by decide +kernel) (by decide +kernel)
set_option maxRecDepth 20000 in
theorem gX2_off_X2_isBetween : GoodIn wsX2_off (va_wsS RX2 57 yX2_isBetween wsX2_isBetween) := goodIn_app (goodIn_of _ (by decide +kernel)) ggX2_off_X2_isBetween
set_option maxRecDepth 20000 in
theorem ggX2_off_X2_layTheRound : GoodIn wsX2_off wsX2_layTheRound := goodIn_r _ [20, 3, 5, 21, 22, 23, 24, 11, 25, 6, 7, 26, 27, 28, 29, 30, 31, 32, 33, 34, 35, 36, 37, 38, 39, 40, 41, 42, 43, 44, 45, 46, 47, 48, 49, 50, 51, 52, 53, 54, 55, 56, 79, 80, 81, 82, 83, 84, 85, 86, 87, 88, 89, 90, 91, 92, 93, 94, 95, 96, 97, 98, 99, 100, 101, 102] (by decide +kernel) (by decide +kernel)
set_option maxRecDepth 20000 in
theorem gX2_off_X2_layTheRound : GoodIn wsX2_off (wsV RX2 76 RX2 yX2_layTheRound wsX2_layTheRound) := goodIn_app (goodIn_of _ (by decide +kernel)) ggX2_off_X2_layTheRound
set_option maxRecDepth 20000 in
theorem ggX2_off_X0_isFlat : GoodIn wsX2_off wsX0_isFlat := goodIn_r _ [60, 53, 90, 91, 92, 93, 94, 95, 96, 97, 98, 99, 100, 101, 102] (by decide +kernel) (by decide +kernel)
set_option maxRecDepth 20000 in
theorem gX2_off_X0_isFlat : GoodIn wsX2_off (wsV RX2 79 RX0 yX0_isFlat wsX0_isFlat) := goodIn_app (goodIn_of _ (by decide +kernel)) ggX2_off_X0_isFlat
set_option maxRecDepth 20000 in
theorem ggX2_off_X0_offUpperAt : GoodIn wsX2_off wsX0_offUpperAt := goodIn_r _ [64, 31, 53, 54, 55, 56, 47, 11, 48, 90, 91, 92, 93, 94, 95, 96, 97, 98, 99, 100, 101, 102] (by decide +kernel) (by decide +kernel)
set_option maxRecDepth 20000 in
theorem gX2_off_X0_offUpperAt : GoodIn wsX2_off (wsV RX2 110 RX0 yX0_offUpperAt wsX0_offUpperAt) := goodIn_app (goodIn_of _ (by decide +kernel)) ggX2_off_X0_offUpperAt
set_option maxRecDepth 20000 in
theorem ggX2_off_X0_fullLower : GoodIn wsX2_off wsX0_fullLower := goodIn_r _ [68, 31, 53, 90, 91, 92, 93, 94, 95, 96, 97, 98, 99, 100, 101, 102] (by decide +kernel) (by decide +kernel)
set_option maxRecDepth 20000 in
theorem gX2_off_X0_fullLower : GoodIn wsX2_off (wsV RX2 89 RX0 yX0_fullLower wsX0_fullLower) := goodIn_app (goodIn_of _ (by decide +kernel)) ggX2_off_X0_fullLower
set_option maxRecDepth 20000 in
theorem ggX2_off_X2_partOfLowest : GoodIn wsX2_off wsX2_partOfLowest := goodIn_r _ [71, 72, 73, 74, 75, 76, 77, 11, 78] (by decide +kernel) (by decide +kernel)
set_option maxRecDepth 20000 in
theorem gX2_off_X2_partOfLowest : GoodIn wsX2_off (va_wsS RX2 93 yX2_partOfLowest wsX2_partOfLowest) := goodIn_app (goodIn_of _ (by decide +kernel)) ggX2_off_X2_partOfLowest
theorem dX2_off_0 : decode cX2_off 0 = .ok (.aload_n 0, 1) := by decide +kernel
theorem dX2_off_1 : decode cX2_off 1 = .ok (.iload_n 1, 1) := by decide +kernel
theorem dX2_off_2 : decode cX2_off 2 = .ok (.invokevirtual 53, 3) := by decide +kernel
theorem dX2_off_5 : decode cX2_off 5 = .ok (.ifCond .ne 7, 3) := by decide +kernel
theorem dX2_off_8 : decode cX2_off 8 = .ok (.ldc2_w 108, 3) := by decide +kernel
theorem dX2_off_11 : decode cX2_off 11 = .ok (.lreturn, 1) := by decide +kernel
theorem dX2_off_12 : decode cX2_off 12 = .ok (.iload_n 2, 1) := by decide +kernel
theorem dX2_off_13 : decode cX2_off 13 = .ok (.iconst 0, 1) := by decide +kernel
theorem dX2_off_14 : decode cX2_off 14 = .ok (.iconst 1, 1) := by decide +kernel
theorem dX2_off_15 : decode cX2_off 15 = .ok (.invokestatic 57, 3) := by decide +kernel
theorem dX2_off_18 : decode cX2_off 18 = .ok (.ifCond .ne 7, 3) := by decide +kernel
theorem dX2_off_21 : decode cX2_off 21 = .ok (.ldc2_w 74, 3) := by decide +kernel
theorem dX2_off_24 : decode cX2_off 24 = .ok (.lreturn, 1) := by decide +kernel
theorem dX2_off_25 : decode cX2_off 25 = .ok (.aload_n 0, 1) := by decide +kernel
theorem dX2_off_26 : decode cX2_off 26 = .ok (.invokevirtual 76, 3) := by decide +kernel
theorem dX2_off_29 : decode cX2_off 29 = .ok (.aload_n 0, 1) := by decide +kernel
theorem dX2_off_30 : decode cX2_off 30 = .ok (.getfield 29, 3) := by decide +kernel
theorem dX2_off_33 : decode cX2_off 33 = .ok (.invokevirtual 79, 3) := by decide +kernel
theorem dX2_off_36 : decode cX2_off 36 = .ok (.ifCond .eq 7, 3) := by decide +kernel
theorem dX2_off_39 : decode cX2_off 39 = .ok (.ldc2_w 83, 3) := by decide +kernel
theorem dX2_off_42 : decode cX2_off 42 = .ok (.lreturn, 1) := by decide +kernel
theorem dX2_off_43 : decode cX2_off 43 = .ok (.aload_n 0, 1) := by decide +kernel
theorem dX2_off_44 : decode cX2_off 44 = .ok (.getfield 29, 3) := by decide +kernel
theorem dX2_off_47 : decode cX2_off 47 = .ok (.aload_n 0, 1) := by decide +kernel
theorem dX2_off_48 : decode cX2_off 48 = .ok (.getfield 12, 3) := by decide +kernel
theorem dX2_off_51 : decode cX2_off 51 = .ok (.getfield 43, 3) := by decide +kernel
theorem dX2_off_54 : decode cX2_off 54 = .ok (.iload_n 1, 1) := by decide +kernel
theorem dX2_off_55 : decode cX2_off 55 = .ok (.iaload, 1) := by decide +kernel
theorem dX2_off_56 : decode cX2_off 56 = .ok (.aload_n 0, 1) := by decide +kernel
theorem dX2_off_57 : decode cX2_off 57 = .ok (.getfield 12, 3) := by decide +kernel
theorem dX2_off_60 : decode cX2_off 60 = .ok (.getfield 47, 3) := by decide +kernel
theorem dX2_off_63 : decode cX2_off 63 = .ok (.iload_n 1, 1) := by decide +kernel
theorem dX2_off_64 : decode cX2_off 64 = .ok (.iaload, 1) := by decide +kernel
theorem dX2_off_65 : decode cX2_off 65 = .ok (.invokevirtual 110, 3) := by decide +kernel
theorem dX2_off_68 : decode cX2_off 68 = .ok (.lstore_n 3, 1) := by decide +kernel
theorem dX2_off_69 : decode cX2_off 69 = .ok (.lload_n 3, 1) := by decide +kernel
theorem dX2_off_70 : decode cX2_off 70 = .ok (.aload_n 0, 1) := by decide +kernel
theorem dX2_off_71 : decode cX2_off 71 = .ok (.getfield 29, 3) := by decide +kernel
theorem dX2_off_74 : decode cX2_off 74 = .ok (.invokevirtual 89, 3) := by decide +kernel
theorem dX2_off_77 : decode cX2_off 77 = .ok (.iload_n 2, 1) := by decide +kernel
theorem dX2_off_78 : decode cX2_off 78 = .ok (.invokestatic 93, 3) := by decide +kernel
theorem dX2_off_81 : decode cX2_off 81 = .ok (.lreturn, 1) := by decide +kernel
set_option maxRecDepth 20000 in
theorem ggX2_worst_X2_isBetween : GoodIn wsX2_worst wsX2_isBetween := goodIn_r _ [5] (by decide +kernel) (by decide +kernel)
set_option maxRecDepth 20000 in
theorem gX2_worst_X2_isBetween : GoodIn wsX2_worst (va_wsS RX2 57 yX2_isBetween wsX2_isBetween) := goodIn_app (goodIn_of _ (by decide +kernel)) ggX2_worst_X2_isBetween
set_option maxRecDepth 20000 in
theorem ggX2_worst_X2_layTheRound : GoodIn wsX2_worst wsX2_layTheRound := goodIn_r _ [9, 1, 10, 11, 12, 13, 14, 4, 15, 16, 17, 18, 19, 20, 21, 22, 23, 24, 25, 26, 27, 28, 29, 30, 31, 32, 33, 34, 35, 36, 37, 38, 39, 40, 41, 42, 43, 44, 45, 46, 47, 48, 79, 80, 81, 82, 83, 84, 85, 86, 87, 88, 89, 90, 91, 92, 93, 94, 95, 96, 97, 98, 99, 100, 101, 102] (by decide +kernel) (by decide +kernel)
set_option maxRecDepth 20000 in
theorem gX2_worst_X2_layTheRound : GoodIn wsX2_worst (wsV RX2 76 RX2 yX2_layTheRound wsX2_layTheRound) := goodIn_app (goodIn_of _ (by decide +kernel)) ggX2_worst_X2_layTheRound
set_option maxRecDepth 20000 in
theorem ggX2_worst_X0_isFlat : GoodIn wsX2_worst wsX0_isFlat := goodIn_r _ [52, 45, 90, 91, 92, 93, 94, 95, 96, 97, 98, 99, 100, 101, 102] (by decide +kernel) (by decide +kernel)
set_option maxRecDepth 20000 in
theorem gX2_worst_X0_isFlat : GoodIn wsX2_worst (wsV RX2 79 RX0 yX0_isFlat wsX0_isFlat) := goodIn_app (goodIn_of _ (by decide +kernel)) ggX2_worst_X0_isFlat
set_option maxRecDepth 20000 in
theorem ggX2_worst_X2_worstSample : GoodIn wsX2_worst wsX2_worstSample := goodIn_r _ [56, 57, 10, 11, 1, 32, 33, 4, 34, 58, 59, 60, 61, 16, 17, 62, 63, 64, 65, 66, 67, 68, 69, 70, 71, 72, 73, 21, 74, 23, 45, 46, 47, 48, 39, 40, 79, 80, 81, 82, 83, 84, 85, 86, 87, 88, 89, 90, 91, 92, 93, 94, 95, 96, 97, 98, 99, 100, 101, 102] (by decide +kernel) (by decide +kernel)
set_option maxRecDepth 20000 in
theorem gX2_worst_X2_worstSample : GoodIn wsX2_worst (wsV RX2 114 RX2 yX2_worstSample wsX2_worstSample) := goodIn_app (goodIn_of _ (by decide +kernel)) ggX2_worst_X2_worstSample
set_option maxRecDepth 20000 in
theorem ggX2_worst_X0_fullLower : GoodIn wsX2_worst wsX0_fullLower := goodIn_r _ [78, 23, 45, 90, 91, 92, 93, 94, 95, 96, 97, 98, 99, 100, 101, 102] (by decide +kernel) (by decide +kernel)
set_option maxRecDepth 20000 in
theorem gX2_worst_X0_fullLower : GoodIn wsX2_worst (wsV RX2 89 RX0 yX0_fullLower wsX0_fullLower) := goodIn_app (goodIn_of _ (by decide +kernel)) ggX2_worst_X0_fullLower
set_option maxRecDepth 20000 in
theorem ggX2_worst_X2_sizeUpper : GoodIn wsX2_worst wsX2_sizeUpper := goodIn_r _ [61, 10, 16, 17, 62, 63, 64, 65, 66, 67, 68, 4, 69, 70, 71, 72, 73, 21, 74, 23, 45, 46, 47, 48, 39, 40, 79, 80, 81, 82, 83, 84, 85, 86, 87, 88, 89, 90, 91, 92, 93, 94, 95, 96, 97, 98, 99, 100, 101, 102] (by decide +kernel) (by decide +kernel)
set_option maxRecDepth 20000 in
theorem gX2_worst_X2_sizeUpper : GoodIn wsX2_worst (wsV RX2 118 RX2 yX2_sizeUpper wsX2_sizeUpper) := goodIn_app (goodIn_of _ (by decide +kernel)) ggX2_worst_X2_sizeUpper
theorem dX2_worst_0 : decode cX2_worst 0 = .ok (.iload_n 1, 1) := by decide +kernel
theorem dX2_worst_1 : decode cX2_worst 1 = .ok (.iconst 0, 1) := by decide +kernel
theorem dX2_worst_2 : decode cX2_worst 2 = .ok (.iconst 1, 1) := by decide +kernel
theorem dX2_worst_3 : decode cX2_worst 3 = .ok (.invokestatic 57, 3) := by decide +kernel
theorem dX2_worst_6 : decode cX2_worst 6 = .ok (.ifCond .ne 6, 3) := by decide +kernel
theorem dX2_worst_9 : decode cX2_worst 9 = .ok (.bipush (-2), 2) := by decide +kernel
theorem dX2_worst_11 : decode cX2_worst 11 = .ok (.ireturn, 1) := by decide +kernel
theorem dX2_worst_12 : decode cX2_worst 12 = .ok (.aload_n 0, 1) := by decide +kernel
theorem dX2_worst_13 : decode cX2_worst 13 = .ok (.invokevirtual 76, 3) := by decide +kernel
theorem dX2_worst_16 : decode cX2_worst 16 = .ok (.aload_n 0, 1) := by decide +kernel
theorem dX2_worst_17 : decode cX2_worst 17 = .ok (.getfield 29, 3) := by decide +kernel
theorem dX2_worst_20 : decode cX2_worst 20 = .ok (.invokevirtual 79, 3) := by decide +kernel
theorem dX2_worst_23 : decode cX2_worst 23 = .ok (.ifCond .eq 6, 3) := by decide +kernel
theorem dX2_worst_26 : decode cX2_worst 26 = .ok (.bipush (-5), 2) := by decide +kernel
theorem dX2_worst_28 : decode cX2_worst 28 = .ok (.ireturn, 1) := by decide +kernel
theorem dX2_worst_29 : decode cX2_worst 29 = .ok (.aload_n 0, 1) := by decide +kernel
theorem dX2_worst_30 : decode cX2_worst 30 = .ok (.invokevirtual 114, 3) := by decide +kernel
theorem dX2_worst_33 : decode cX2_worst 33 = .ok (.istore_n 2, 1) := by decide +kernel
theorem dX2_worst_34 : decode cX2_worst 34 = .ok (.iload_n 1, 1) := by decide +kernel
theorem dX2_worst_35 : decode cX2_worst 35 = .ok (.ifCond .ne 5, 3) := by decide +kernel
theorem dX2_worst_38 : decode cX2_worst 38 = .ok (.iload_n 2, 1) := by decide +kernel
theorem dX2_worst_39 : decode cX2_worst 39 = .ok (.ireturn, 1) := by decide +kernel
theorem dX2_worst_40 : decode cX2_worst 40 = .ok (.aload_n 0, 1) := by decide +kernel
theorem dX2_worst_41 : decode cX2_worst 41 = .ok (.getfield 29, 3) := by decide +kernel
theorem dX2_worst_44 : decode cX2_worst 44 = .ok (.invokevirtual 89, 3) := by decide +kernel
theorem dX2_worst_47 : decode cX2_worst 47 = .ok (.lstore_n 3, 1) := by decide +kernel
theorem dX2_worst_48 : decode cX2_worst 48 = .ok (.lload_n 3, 1) := by decide +kernel
theorem dX2_worst_49 : decode cX2_worst 49 = .ok (.lconst 0, 1) := by decide +kernel
theorem dX2_worst_50 : decode cX2_worst 50 = .ok (.lcmp, 1) := by decide +kernel
theorem dX2_worst_51 : decode cX2_worst 51 = .ok (.ifCond .le 18, 3) := by decide +kernel
theorem dX2_worst_54 : decode cX2_worst 54 = .ok (.aload_n 0, 1) := by decide +kernel
theorem dX2_worst_55 : decode cX2_worst 55 = .ok (.aload_n 0, 1) := by decide +kernel
theorem dX2_worst_56 : decode cX2_worst 56 = .ok (.getfield 29, 3) := by decide +kernel
theorem dX2_worst_59 : decode cX2_worst 59 = .ok (.iload_n 2, 1) := by decide +kernel
theorem dX2_worst_60 : decode cX2_worst 60 = .ok (.invokevirtual 118, 3) := by decide +kernel
theorem dX2_worst_63 : decode cX2_worst 63 = .ok (.lload_n 3, 1) := by decide +kernel
theorem dX2_worst_64 : decode cX2_worst 64 = .ok (.ldiv, 1) := by decide +kernel
theorem dX2_worst_65 : decode cX2_worst 65 = .ok (.l2i, 1) := by decide +kernel
theorem dX2_worst_66 : decode cX2_worst 66 = .ok (.goto 4, 3) := by decide +kernel
theorem dX2_worst_69 : decode cX2_worst 69 = .ok (.iconst 0, 1) := by decide +kernel
theorem dX2_worst_70 : decode cX2_worst 70 = .ok (.ireturn, 1) := by decide +kernel
set_option maxRecDepth 20000 in
theorem ggX2_need_X2_isBetween : GoodIn wsX2_need wsX2_isBetween := goodIn_r _ [6] (by decide +kernel) (by decide +kernel)
set_option maxRecDepth 20000 in
theorem gX2_need_X2_isBetween : GoodIn wsX2_need (va_wsS RX2 57 yX2_isBetween wsX2_isBetween) := goodIn_app (goodIn_of _ (by decide +kernel)) ggX2_need_X2_isBetween
theorem dX2_need_0 : decode cX2_need 0 = .ok (.iload_n 1, 1) := by decide +kernel
theorem dX2_need_1 : decode cX2_need 1 = .ok (.iconst 1, 1) := by decide +kernel
theorem dX2_need_2 : decode cX2_need 2 = .ok (.bipush 8, 2) := by decide +kernel
theorem dX2_need_4 : decode cX2_need 4 = .ok (.invokestatic 57, 3) := by decide +kernel
theorem dX2_need_7 : decode cX2_need 7 = .ok (.ifCond .ne 6, 3) := by decide +kernel
theorem dX2_need_10 : decode cX2_need 10 = .ok (.bipush (-2), 2) := by decide +kernel
theorem dX2_need_12 : decode cX2_need 12 = .ok (.ireturn, 1) := by decide +kernel
theorem dX2_need_13 : decode cX2_need 13 = .ok (.aload_n 0, 1) := by decide +kernel
theorem dX2_need_14 : decode cX2_need 14 = .ok (.getfield 12, 3) := by decide +kernel
theorem dX2_need_17 : decode cX2_need 17 = .ok (.getfield 122, 3) := by decide +kernel
theorem dX2_need_20 : decode cX2_need 20 = .ok (.istore_n 2, 1) := by decide +kernel
theorem dX2_need_21 : decode cX2_need 21 = .ok (.aload_n 0, 1) := by decide +kernel
theorem dX2_need_22 : decode cX2_need 22 = .ok (.getfield 12, 3) := by decide +kernel
theorem dX2_need_25 : decode cX2_need 25 = .ok (.iload_n 1, 1) := by decide +kernel
theorem dX2_need_26 : decode cX2_need 26 = .ok (.putfield 122, 3) := by decide +kernel
theorem dX2_need_29 : decode cX2_need 29 = .ok (.iload_n 2, 1) := by decide +kernel
theorem dX2_need_30 : decode cX2_need 30 = .ok (.ireturn, 1) := by decide +kernel
set_option maxRecDepth 20000 in
theorem ggX2_cover_X2_layTheRound : GoodIn wsX2_cover wsX2_layTheRound := goodIn_r _ [6, 1, 7, 8, 9, 10, 11, 5, 12, 13, 14, 15, 16, 17, 18, 19, 20, 21, 22, 23, 24, 25, 26, 27, 28, 29, 30, 31, 32, 33, 34, 35, 36, 37, 38, 39, 40, 41, 42, 43, 44, 45, 65, 66, 67, 68, 69, 70, 71, 72, 73, 74, 75, 76, 77, 78, 79, 80, 81, 82, 83, 84, 85, 86, 87, 88] (by decide +kernel) (by decide +kernel)
set_option maxRecDepth 20000 in
theorem gX2_cover_X2_layTheRound : GoodIn wsX2_cover (wsV RX2 76 RX2 yX2_layTheRound wsX2_layTheRound) := goodIn_app (goodIn_of _ (by decide +kernel)) ggX2_cover_X2_layTheRound
set_option maxRecDepth 20000 in
theorem ggX2_cover_X0_isFlat : GoodIn wsX2_cover wsX0_isFlat := goodIn_r _ [49, 42, 76, 77, 78, 79, 80, 81, 82, 83, 84, 85, 86, 87, 88] (by decide +kernel) (by decide +kernel)
set_option maxRecDepth 20000 in
theorem gX2_cover_X0_isFlat : GoodIn wsX2_cover (wsV RX2 79 RX0 yX0_isFlat wsX0_isFlat) := goodIn_app (goodIn_of _ (by decide +kernel)) ggX2_cover_X0_isFlat
set_option maxRecDepth 20000 in
theorem ggX2_cover_X2_coverBy : GoodIn wsX2_cover wsX2_coverBy := goodIn_r _ [53, 7, 8, 13, 14, 29, 30, 5, 31, 54, 55, 56, 18, 57, 58, 42, 43, 44, 59, 60, 61, 62, 63, 64, 65, 66, 67, 68, 69, 70, 71, 72, 73, 74, 75, 76, 77, 78, 79, 80, 81, 82, 83, 84, 85, 86, 87, 88] (by decide +kernel) (by decide +kernel)
set_option maxRecDepth 20000 in
theorem gX2_cover_X2_coverBy : GoodIn wsX2_cover (wsV RX2 125 RX2 yX2_coverBy wsX2_coverBy) := goodIn_app (goodIn_of _ (by decide +kernel)) ggX2_cover_X2_coverBy
theorem dX2_cover_0 : decode cX2_cover 0 = .ok (.aload_n 0, 1) := by decide +kernel
theorem dX2_cover_1 : decode cX2_cover 1 = .ok (.invokevirtual 76, 3) := by decide +kernel
theorem dX2_cover_4 : decode cX2_cover 4 = .ok (.aload_n 0, 1) := by decide +kernel
theorem dX2_cover_5 : decode cX2_cover 5 = .ok (.getfield 29, 3) := by decide +kernel
theorem dX2_cover_8 : decode cX2_cover 8 = .ok (.invokevirtual 79, 3) := by decide +kernel
theorem dX2_cover_11 : decode cX2_cover 11 = .ok (.ifCond .eq 8, 3) := by decide +kernel
theorem dX2_cover_14 : decode cX2_cover 14 = .ok (.bipush (-5), 2) := by decide +kernel
theorem dX2_cover_16 : decode cX2_cover 16 = .ok (.goto 11, 3) := by decide +kernel
theorem dX2_cover_19 : decode cX2_cover 19 = .ok (.aload_n 0, 1) := by decide +kernel
theorem dX2_cover_20 : decode cX2_cover 20 = .ok (.aload_n 0, 1) := by decide +kernel
theorem dX2_cover_21 : decode cX2_cover 21 = .ok (.getfield 29, 3) := by decide +kernel
theorem dX2_cover_24 : decode cX2_cover 24 = .ok (.invokevirtual 125, 3) := by decide +kernel
theorem dX2_cover_27 : decode cX2_cover 27 = .ok (.ireturn, 1) := by decide +kernel
set_option maxRecDepth 20000 in
theorem ggX2_poor_X2_layTheRound : GoodIn wsX2_poor wsX2_layTheRound := goodIn_r _ [5, 6, 7, 8, 9, 10, 11, 4, 12, 13, 14, 15, 16, 17, 18, 19, 20, 21, 22, 23, 24, 25, 26, 27, 28, 29, 30, 31, 32, 33, 34, 35, 36, 37, 38, 39, 40, 41, 42, 43, 44, 45, 77, 78, 79, 80, 81, 82, 83, 84, 85, 86, 87, 88, 89, 90, 91, 92, 93, 94, 95, 96, 97, 98, 99, 100] (by decide +kernel) (by decide +kernel)
set_option maxRecDepth 20000 in
theorem gX2_poor_X2_layTheRound : GoodIn wsX2_poor (wsV RX2 76 RX2 yX2_layTheRound wsX2_layTheRound) := goodIn_app (goodIn_of _ (by decide +kernel)) ggX2_poor_X2_layTheRound
set_option maxRecDepth 20000 in
theorem ggX2_poor_X2_isTheRoundPoor : GoodIn wsX2_poor wsX2_isTheRoundPoor := goodIn_r _ [49, 6, 7, 50, 51, 52, 53, 18, 54, 42, 55, 56, 57, 4, 58, 8, 13, 14, 29, 30, 31, 59, 60, 61, 62, 63, 43, 44, 64, 65, 66, 67, 68, 69, 70, 71, 72, 73, 74, 75, 76, 77, 78, 79, 80, 81, 82, 83, 84, 85, 86, 87, 88, 89, 90, 91, 92, 93, 94, 95, 96, 97, 98, 99, 100] (by decide +kernel) (by decide +kernel)
set_option maxRecDepth 20000 in
theorem gX2_poor_X2_isTheRoundPoor : GoodIn wsX2_poor (wsV RX2 129 RX2 yX2_isTheRoundPoor wsX2_isTheRoundPoor) := goodIn_app (goodIn_of _ (by decide +kernel)) ggX2_poor_X2_isTheRoundPoor
theorem dX2_poor_0 : decode cX2_poor 0 = .ok (.aload_n 0, 1) := by decide +kernel
theorem dX2_poor_1 : decode cX2_poor 1 = .ok (.invokevirtual 76, 3) := by decide +kernel
theorem dX2_poor_4 : decode cX2_poor 4 = .ok (.aload_n 0, 1) := by decide +kernel
theorem dX2_poor_5 : decode cX2_poor 5 = .ok (.invokevirtual 129, 3) := by decide +kernel
theorem dX2_poor_8 : decode cX2_poor 8 = .ok (.ifCond .eq 7, 3) := by decide +kernel
theorem dX2_poor_11 : decode cX2_poor 11 = .ok (.iconst 1, 1) := by decide +kernel
theorem dX2_poor_12 : decode cX2_poor 12 = .ok (.goto 4, 3) := by decide +kernel
theorem dX2_poor_15 : decode cX2_poor 15 = .ok (.iconst 0, 1) := by decide +kernel
theorem dX2_poor_16 : decode cX2_poor 16 = .ok (.ireturn, 1) := by decide +kernel
set_option maxRecDepth 20000 in
theorem ggX2_eighth_X2_isSample : GoodIn wsX2_eighth wsX2_isSample := goodIn_r _ [9, 2, 10, 63, 64, 65, 66, 67, 68, 69, 70, 71, 72, 73] (by decide +kernel) (by decide +kernel)
set_option maxRecDepth 20000 in
theorem gX2_eighth_X2_isSample : GoodIn wsX2_eighth (wsV RX2 53 RX2 yX2_isSample wsX2_isSample) := goodIn_app (goodIn_of _ (by decide +kernel)) ggX2_eighth_X2_isSample
set_option maxRecDepth 20000 in
theorem ggX2_eighth_X2_layTheRound : GoodIn wsX2_eighth wsX2_layTheRound := goodIn_r _ [14, 1, 2, 15, 16, 17, 18, 8, 19, 3, 4, 20, 21, 22, 23, 24, 25, 26, 27, 28, 29, 30, 31, 32, 33, 34, 35, 36, 37, 38, 39, 40, 41, 42, 43, 44, 45, 46, 47, 48, 49, 50, 63, 64, 65, 66, 67, 68, 69, 70, 71, 72, 73, 74, 75, 76, 77, 78, 79, 80, 81, 82, 83, 84, 85, 86] (by decide +kernel) (by decide +kernel)
set_option maxRecDepth 20000 in
theorem gX2_eighth_X2_layTheRound : GoodIn wsX2_eighth (wsV RX2 76 RX2 yX2_layTheRound wsX2_layTheRound) := goodIn_app (goodIn_of _ (by decide +kernel)) ggX2_eighth_X2_layTheRound
set_option maxRecDepth 20000 in
theorem ggX2_eighth_X0_isFlat : GoodIn wsX2_eighth wsX0_isFlat := goodIn_r _ [54, 47, 74, 75, 76, 77, 78, 79, 80, 81, 82, 83, 84, 85, 86] (by decide +kernel) (by decide +kernel)
set_option maxRecDepth 20000 in
theorem gX2_eighth_X0_isFlat : GoodIn wsX2_eighth (wsV RX2 79 RX0 yX0_isFlat wsX0_isFlat) := goodIn_app (goodIn_of _ (by decide +kernel)) ggX2_eighth_X0_isFlat
set_option maxRecDepth 20000 in
theorem ggX2_eighth_X0_eighthAt : GoodIn wsX2_eighth wsX0_eighthAt := goodIn_r _ [58, 59, 47, 48, 49, 60, 61, 23, 62, 74, 75, 76, 77, 78, 79, 80, 81, 82, 83, 84, 85, 86] (by decide +kernel) (by decide +kernel)
set_option maxRecDepth 20000 in
theorem gX2_eighth_X0_eighthAt : GoodIn wsX2_eighth (wsV RX2 132 RX0 yX0_eighthAt wsX0_eighthAt) := goodIn_app (goodIn_of _ (by decide +kernel)) ggX2_eighth_X0_eighthAt
theorem dX2_eighth_0 : decode cX2_eighth 0 = .ok (.aload_n 0, 1) := by decide +kernel
theorem dX2_eighth_1 : decode cX2_eighth 1 = .ok (.iload_n 1, 1) := by decide +kernel
theorem dX2_eighth_2 : decode cX2_eighth 2 = .ok (.invokevirtual 53, 3) := by decide +kernel
theorem dX2_eighth_5 : decode cX2_eighth 5 = .ok (.ifCond .ne 5, 3) := by decide +kernel
theorem dX2_eighth_8 : decode cX2_eighth 8 = .ok (.iconst (-1), 1) := by decide +kernel
theorem dX2_eighth_9 : decode cX2_eighth 9 = .ok (.ireturn, 1) := by decide +kernel
theorem dX2_eighth_10 : decode cX2_eighth 10 = .ok (.aload_n 0, 1) := by decide +kernel
theorem dX2_eighth_11 : decode cX2_eighth 11 = .ok (.invokevirtual 76, 3) := by decide +kernel
theorem dX2_eighth_14 : decode cX2_eighth 14 = .ok (.aload_n 0, 1) := by decide +kernel
theorem dX2_eighth_15 : decode cX2_eighth 15 = .ok (.getfield 29, 3) := by decide +kernel
theorem dX2_eighth_18 : decode cX2_eighth 18 = .ok (.invokevirtual 79, 3) := by decide +kernel
theorem dX2_eighth_21 : decode cX2_eighth 21 = .ok (.ifCond .eq 8, 3) := by decide +kernel
theorem dX2_eighth_24 : decode cX2_eighth 24 = .ok (.bipush (-5), 2) := by decide +kernel
theorem dX2_eighth_26 : decode cX2_eighth 26 = .ok (.goto 28, 3) := by decide +kernel
theorem dX2_eighth_29 : decode cX2_eighth 29 = .ok (.aload_n 0, 1) := by decide +kernel
theorem dX2_eighth_30 : decode cX2_eighth 30 = .ok (.getfield 29, 3) := by decide +kernel
theorem dX2_eighth_33 : decode cX2_eighth 33 = .ok (.aload_n 0, 1) := by decide +kernel
theorem dX2_eighth_34 : decode cX2_eighth 34 = .ok (.getfield 12, 3) := by decide +kernel
theorem dX2_eighth_37 : decode cX2_eighth 37 = .ok (.getfield 43, 3) := by decide +kernel
theorem dX2_eighth_40 : decode cX2_eighth 40 = .ok (.iload_n 1, 1) := by decide +kernel
theorem dX2_eighth_41 : decode cX2_eighth 41 = .ok (.iaload, 1) := by decide +kernel
theorem dX2_eighth_42 : decode cX2_eighth 42 = .ok (.aload_n 0, 1) := by decide +kernel
theorem dX2_eighth_43 : decode cX2_eighth 43 = .ok (.getfield 12, 3) := by decide +kernel
theorem dX2_eighth_46 : decode cX2_eighth 46 = .ok (.getfield 47, 3) := by decide +kernel
theorem dX2_eighth_49 : decode cX2_eighth 49 = .ok (.iload_n 1, 1) := by decide +kernel
theorem dX2_eighth_50 : decode cX2_eighth 50 = .ok (.iaload, 1) := by decide +kernel
theorem dX2_eighth_51 : decode cX2_eighth 51 = .ok (.invokevirtual 132, 3) := by decide +kernel
theorem dX2_eighth_54 : decode cX2_eighth 54 = .ok (.ireturn, 1) := by decide +kernel
set_option maxRecDepth 20000 in
theorem ggX2_points_X2_isPlace : GoodIn wsX2_points wsX2_isPlace := goodIn_r _ [5, 6, 7, 4, 8] (by decide +kernel) (by decide +kernel)
set_option maxRecDepth 20000 in
theorem gX2_points_X2_isPlace : GoodIn wsX2_points (va_wsS RX2 36 yX2_isPlace wsX2_isPlace) := goodIn_app (goodIn_of _ (by decide +kernel)) ggX2_points_X2_isPlace
set_option maxRecDepth 20000 in
theorem ggX2_points_X2_layTheRound : GoodIn wsX2_points wsX2_layTheRound := goodIn_r _ [12, 1, 13, 14, 15, 16, 17, 4, 18, 19, 20, 21, 22, 23, 24, 25, 26, 27, 28, 29, 30, 31, 32, 33, 34, 35, 36, 37, 38, 39, 40, 41, 42, 43, 44, 45, 46, 47, 48, 49, 50, 51, 83, 84, 85, 86, 87, 88, 89, 90, 91, 92, 93, 94, 95, 96, 97, 98, 99, 100, 101, 102, 103, 104, 105, 106] (by decide +kernel) (by decide +kernel)
set_option maxRecDepth 20000 in
theorem gX2_points_X2_layTheRound : GoodIn wsX2_points (wsV RX2 76 RX2 yX2_layTheRound wsX2_layTheRound) := goodIn_app (goodIn_of _ (by decide +kernel)) ggX2_points_X2_layTheRound
set_option maxRecDepth 20000 in
theorem ggX2_points_X2_isTheRoundPoor : GoodIn wsX2_points wsX2_isTheRoundPoor := goodIn_r _ [55, 1, 13, 56, 57, 58, 59, 24, 60, 48, 61, 62, 63, 4, 64, 14, 19, 20, 35, 36, 37, 65, 66, 67, 68, 69, 49, 50, 70, 71, 72, 73, 74, 75, 76, 77, 78, 79, 80, 81, 82, 83, 84, 85, 86, 87, 88, 89, 90, 91, 92, 93, 94, 95, 96, 97, 98, 99, 100, 101, 102, 103, 104, 105, 106] (by decide +kernel) (by decide +kernel)
set_option maxRecDepth 20000 in
theorem gX2_points_X2_isTheRoundPoor : GoodIn wsX2_points (wsV RX2 129 RX2 yX2_isTheRoundPoor wsX2_isTheRoundPoor) := goodIn_app (goodIn_of _ (by decide +kernel)) ggX2_points_X2_isTheRoundPoor
set_option maxRecDepth 20000 in
theorem ggX2_points_X0_eighthAt : GoodIn wsX2_points wsX0_eighthAt := goodIn_r _ [68, 69, 48, 49, 50, 70, 71, 24, 72, 94, 95, 96, 97, 98, 99, 100, 101, 102, 103, 104, 105, 106] (by decide +kernel) (by decide +kernel)
set_option maxRecDepth 20000 in
theorem gX2_points_X0_eighthAt : GoodIn wsX2_points (wsV RX2 132 RX0 yX0_eighthAt wsX0_eighthAt) := goodIn_app (goodIn_of _ (by decide +kernel)) ggX2_points_X0_eighthAt
theorem dX2_points_0 : decode cX2_points 0 = .ok (.iload_n 1, 1) := by decide +kernel
theorem dX2_points_1 : decode cX2_points 1 = .ok (.iload_n 2, 1) := by decide +kernel
theorem dX2_points_2 : decode cX2_points 2 = .ok (.invokestatic 36, 3) := by decide +kernel
theorem dX2_points_5 : decode cX2_points 5 = .ok (.ifCond .ne 6, 3) := by decide +kernel
theorem dX2_points_8 : decode cX2_points 8 = .ok (.bipush (-2), 2) := by decide +kernel
theorem dX2_points_10 : decode cX2_points 10 = .ok (.ireturn, 1) := by decide +kernel
theorem dX2_points_11 : decode cX2_points 11 = .ok (.aload_n 0, 1) := by decide +kernel
theorem dX2_points_12 : decode cX2_points 12 = .ok (.invokevirtual 76, 3) := by decide +kernel
theorem dX2_points_15 : decode cX2_points 15 = .ok (.aload_n 0, 1) := by decide +kernel
theorem dX2_points_16 : decode cX2_points 16 = .ok (.invokevirtual 129, 3) := by decide +kernel
theorem dX2_points_19 : decode cX2_points 19 = .ok (.ifCond .eq 8, 3) := by decide +kernel
theorem dX2_points_22 : decode cX2_points 22 = .ok (.bipush (-5), 2) := by decide +kernel
theorem dX2_points_24 : decode cX2_points 24 = .ok (.goto 12, 3) := by decide +kernel
theorem dX2_points_27 : decode cX2_points 27 = .ok (.aload_n 0, 1) := by decide +kernel
theorem dX2_points_28 : decode cX2_points 28 = .ok (.getfield 29, 3) := by decide +kernel
theorem dX2_points_31 : decode cX2_points 31 = .ok (.iload_n 1, 1) := by decide +kernel
theorem dX2_points_32 : decode cX2_points 32 = .ok (.iload_n 2, 1) := by decide +kernel
theorem dX2_points_33 : decode cX2_points 33 = .ok (.invokevirtual 132, 3) := by decide +kernel
theorem dX2_points_36 : decode cX2_points 36 = .ok (.ireturn, 1) := by decide +kernel
set_option maxRecDepth 20000 in
theorem ggX2_helps_J6_bitCount_0f7a4 : GoodIn wsX2_helps wsJ6_bitCount_0f7a4 := goodIn_r _ [9, 10, 11, 12] (by decide +kernel) (by decide +kernel)
set_option maxRecDepth 20000 in
theorem gX2_helps_J6_bitCount_0f7a4 : GoodIn wsX2_helps (va_wsS RX2 61 yJ6_bitCount_0f7a4 wsJ6_bitCount_0f7a4) := goodIn_app (goodIn_of _ (by decide +kernel)) ggX2_helps_J6_bitCount_0f7a4
set_option maxRecDepth 20000 in
theorem ggX2_helps_X2_sumUp : GoodIn wsX2_helps wsX2_sumUp := goodIn_r _ [17, 1, 18, 19, 20, 21, 22, 23, 24, 25, 26, 27, 28, 29, 30, 31, 32, 33, 34, 35, 16, 36, 37, 38, 39, 40, 41, 42, 79, 80, 81, 82, 83, 84, 85, 86, 87, 88, 89, 90, 91, 92, 93, 94, 95, 96, 97, 98, 99, 100, 101, 102] (by decide +kernel) (by decide +kernel)
set_option maxRecDepth 20000 in
theorem gX2_helps_X2_sumUp : GoodIn wsX2_helps (wsV RX2 135 RX2 yX2_sumUp wsX2_sumUp) := goodIn_app (goodIn_of _ (by decide +kernel)) ggX2_helps_X2_sumUp
set_option maxRecDepth 20000 in
theorem ggX2_helps_X2_helpAt : GoodIn wsX2_helps wsX2_helpAt := goodIn_r _ [46, 47, 5, 1, 4, 48, 49, 50, 23, 51, 25, 26, 27, 28, 29, 30, 31, 32, 33, 37, 38, 39, 40, 41, 16, 42, 52, 53, 54, 55, 56, 57, 58, 59, 60, 61, 62, 63, 64, 65, 66, 67, 68, 69, 70, 71, 72, 73, 74, 75, 76, 77, 78, 3, 18, 19, 34, 35, 36, 6, 7, 8, 9, 10, 11, 12, 79, 80, 81, 82, 83, 84, 85, 86, 87, 88, 89, 90, 91, 92, 93, 94, 95, 96, 97, 98, 99, 100, 101, 102] (by decide +kernel) (by decide +kernel)
set_option maxRecDepth 20000 in
theorem gX2_helps_X2_helpAt : GoodIn wsX2_helps (wsV RX2 139 RX2 yX2_helpAt wsX2_helpAt) := goodIn_app (goodIn_of _ (by decide +kernel)) ggX2_helps_X2_helpAt
theorem dX2_helps_0 : decode cX2_helps 0 = .ok (.aload_n 0, 1) := by decide +kernel
theorem dX2_helps_1 : decode cX2_helps 1 = .ok (.getfield 12, 3) := by decide +kernel
theorem dX2_helps_4 : decode cX2_helps 4 = .ok (.getfield 40, 3) := by decide +kernel
theorem dX2_helps_7 : decode cX2_helps 7 = .ok (.bipush 10, 2) := by decide +kernel
theorem dX2_helps_9 : decode cX2_helps 9 = .ok (.if_icmp .ge 25, 3) := by decide +kernel
theorem dX2_helps_12 : decode cX2_helps 12 = .ok (.aload_n 0, 1) := by decide +kernel
theorem dX2_helps_13 : decode cX2_helps 13 = .ok (.getfield 12, 3) := by decide +kernel
theorem dX2_helps_16 : decode cX2_helps 16 = .ok (.getfield 50, 3) := by decide +kernel
theorem dX2_helps_19 : decode cX2_helps 19 = .ok (.invokestatic 61, 3) := by decide +kernel
theorem dX2_helps_22 : decode cX2_helps 22 = .ok (.iconst 1, 1) := by decide +kernel
theorem dX2_helps_23 : decode cX2_helps 23 = .ok (.iadd, 1) := by decide +kernel
theorem dX2_helps_24 : decode cX2_helps 24 = .ok (.aload_n 0, 1) := by decide +kernel
theorem dX2_helps_25 : decode cX2_helps 25 = .ok (.getfield 12, 3) := by decide +kernel
theorem dX2_helps_28 : decode cX2_helps 28 = .ok (.getfield 122, 3) := by decide +kernel
theorem dX2_helps_31 : decode cX2_helps 31 = .ok (.if_icmp .ge 5, 3) := by decide +kernel
theorem dX2_helps_34 : decode cX2_helps 34 = .ok (.iconst 0, 1) := by decide +kernel
theorem dX2_helps_35 : decode cX2_helps 35 = .ok (.ireturn, 1) := by decide +kernel
theorem dX2_helps_36 : decode cX2_helps 36 = .ok (.aload_n 0, 1) := by decide +kernel
theorem dX2_helps_37 : decode cX2_helps 37 = .ok (.aload_n 0, 1) := by decide +kernel
theorem dX2_helps_38 : decode cX2_helps 38 = .ok (.getfield 29, 3) := by decide +kernel
theorem dX2_helps_41 : decode cX2_helps 41 = .ok (.aload_n 0, 1) := by decide +kernel
theorem dX2_helps_42 : decode cX2_helps 42 = .ok (.getfield 12, 3) := by decide +kernel
theorem dX2_helps_45 : decode cX2_helps 45 = .ok (.getfield 50, 3) := by decide +kernel
theorem dX2_helps_48 : decode cX2_helps 48 = .ok (.invokevirtual 135, 3) := by decide +kernel
theorem dX2_helps_51 : decode cX2_helps 51 = .ok (.iconst 0, 1) := by decide +kernel
theorem dX2_helps_52 : decode cX2_helps 52 = .ok (.istore_n 1, 1) := by decide +kernel
theorem dX2_helps_53 : decode cX2_helps 53 = .ok (.bipush (-40), 2) := by decide +kernel
theorem dX2_helps_55 : decode cX2_helps 55 = .ok (.istore_n 2, 1) := by decide +kernel
theorem dX2_helps_56 : decode cX2_helps 56 = .ok (.iload_n 2, 1) := by decide +kernel
theorem dX2_helps_57 : decode cX2_helps 57 = .ok (.bipush 40, 2) := by decide +kernel
theorem dX2_helps_59 : decode cX2_helps 59 = .ok (.if_icmp .gt 41, 3) := by decide +kernel
theorem dX2_helps_62 : decode cX2_helps 62 = .ok (.bipush (-40), 2) := by decide +kernel
theorem dX2_helps_64 : decode cX2_helps 64 = .ok (.istore_n 3, 1) := by decide +kernel
theorem dX2_helps_65 : decode cX2_helps 65 = .ok (.iload_n 3, 1) := by decide +kernel
theorem dX2_helps_66 : decode cX2_helps 66 = .ok (.bipush 40, 2) := by decide +kernel
theorem dX2_helps_68 : decode cX2_helps 68 = .ok (.if_icmp .gt 26, 3) := by decide +kernel
theorem dX2_helps_71 : decode cX2_helps 71 = .ok (.iload_n 1, 1) := by decide +kernel
theorem dX2_helps_72 : decode cX2_helps 72 = .ok (.sipush 255, 3) := by decide +kernel
theorem dX2_helps_75 : decode cX2_helps 75 = .ok (.if_icmp .eq 19, 3) := by decide +kernel
theorem dX2_helps_78 : decode cX2_helps 78 = .ok (.iload_n 1, 1) := by decide +kernel
theorem dX2_helps_79 : decode cX2_helps 79 = .ok (.aload_n 0, 1) := by decide +kernel
theorem dX2_helps_80 : decode cX2_helps 80 = .ok (.iload_n 2, 1) := by decide +kernel
theorem dX2_helps_81 : decode cX2_helps 81 = .ok (.iload_n 3, 1) := by decide +kernel
theorem dX2_helps_82 : decode cX2_helps 82 = .ok (.iload_n 1, 1) := by decide +kernel
theorem dX2_helps_83 : decode cX2_helps 83 = .ok (.invokevirtual 139, 3) := by decide +kernel
theorem dX2_helps_86 : decode cX2_helps 86 = .ok (.ior, 1) := by decide +kernel
theorem dX2_helps_87 : decode cX2_helps 87 = .ok (.istore_n 1, 1) := by decide +kernel
theorem dX2_helps_88 : decode cX2_helps 88 = .ok (.iinc 3 1, 3) := by decide +kernel
theorem dX2_helps_91 : decode cX2_helps 91 = .ok (.goto (-26), 3) := by decide +kernel
theorem dX2_helps_94 : decode cX2_helps 94 = .ok (.iinc 2 1, 3) := by decide +kernel
theorem dX2_helps_97 : decode cX2_helps 97 = .ok (.goto (-41), 3) := by decide +kernel
theorem dX2_helps_100 : decode cX2_helps 100 = .ok (.iload_n 1, 1) := by decide +kernel
theorem dX2_helps_101 : decode cX2_helps 101 = .ok (.ireturn, 1) := by decide +kernel
set_option maxRecDepth 20000 in
theorem ggX2_trim_X2_isBetween : GoodIn wsX2_trim wsX2_isBetween := goodIn_r _ [7] (by decide +kernel) (by decide +kernel)
set_option maxRecDepth 20000 in
theorem gX2_trim_X2_isBetween : GoodIn wsX2_trim (va_wsS RX2 57 yX2_isBetween wsX2_isBetween) := goodIn_app (goodIn_of _ (by decide +kernel)) ggX2_trim_X2_isBetween
set_option maxRecDepth 20000 in
theorem ggX2_trim_X2_layTheRound : GoodIn wsX2_trim wsX2_layTheRound := goodIn_r _ [11, 1, 2, 3, 12, 13, 14, 6, 15, 16, 17, 18, 19, 20, 21, 22, 23, 24, 25, 26, 27, 28, 29, 30, 31, 32, 33, 34, 35, 36, 37, 38, 39, 40, 41, 42, 43, 44, 45, 46, 47, 48, 94, 95, 96, 97, 98, 99, 100, 101, 102, 103, 104, 105, 106, 107, 108, 109, 110, 111, 112, 113, 114, 115, 116, 117] (by decide +kernel) (by decide +kernel)
set_option maxRecDepth 20000 in
theorem gX2_trim_X2_layTheRound : GoodIn wsX2_trim (wsV RX2 76 RX2 yX2_layTheRound wsX2_layTheRound) := goodIn_app (goodIn_of _ (by decide +kernel)) ggX2_trim_X2_layTheRound
set_option maxRecDepth 20000 in
theorem ggX2_trim_X0_isFlat : GoodIn wsX2_trim wsX0_isFlat := goodIn_r _ [52, 45, 105, 106, 107, 108, 109, 110, 111, 112, 113, 114, 115, 116, 117] (by decide +kernel) (by decide +kernel)
set_option maxRecDepth 20000 in
theorem gX2_trim_X0_isFlat : GoodIn wsX2_trim (wsV RX2 79 RX0 yX0_isFlat wsX0_isFlat) := goodIn_app (goodIn_of _ (by decide +kernel)) ggX2_trim_X0_isFlat
set_option maxRecDepth 20000 in
theorem ggX2_trim_J6_bitCount_0f7a4 : GoodIn wsX2_trim wsJ6_bitCount_0f7a4 := goodIn_r _ [56, 57, 58, 59] (by decide +kernel) (by decide +kernel)
set_option maxRecDepth 20000 in
theorem gX2_trim_J6_bitCount_0f7a4 : GoodIn wsX2_trim (va_wsS RX2 61 yJ6_bitCount_0f7a4 wsJ6_bitCount_0f7a4) := goodIn_app (goodIn_of _ (by decide +kernel)) ggX2_trim_J6_bitCount_0f7a4
set_option maxRecDepth 20000 in
theorem ggX2_trim_X2_isToTrim : GoodIn wsX2_trim wsX2_isToTrim := goodIn_r _ [63, 2, 3, 1, 53, 54, 55, 56, 57, 58, 59, 49, 50, 51, 21, 52, 45, 64, 65, 66, 6, 67, 68, 32, 33, 34, 69, 70, 71, 72, 16, 17, 73, 74, 75, 76, 77, 78, 79, 80, 81, 82, 83, 84, 85, 23, 46, 47, 48, 39, 40, 86, 87, 88, 89, 90, 91, 92, 93, 94, 95, 96, 97, 98, 99, 100, 101, 102, 103, 104, 105, 106, 107, 108, 109, 110, 111, 112, 113, 114, 115, 116, 117] (by decide +kernel) (by decide +kernel)
set_option maxRecDepth 20000 in
theorem gX2_trim_X2_isToTrim : GoodIn wsX2_trim (wsV RX2 143 RX2 yX2_isToTrim wsX2_isToTrim) := goodIn_app (goodIn_of _ (by decide +kernel)) ggX2_trim_X2_isToTrim
set_option maxRecDepth 20000 in
theorem ggX2_trim_X2_worstSample : GoodIn wsX2_trim wsX2_worstSample := goodIn_r _ [67, 68, 2, 3, 1, 32, 33, 6, 34, 69, 70, 71, 72, 16, 17, 73, 74, 75, 76, 77, 78, 79, 80, 81, 82, 83, 84, 21, 85, 23, 45, 46, 47, 48, 39, 40, 94, 95, 96, 97, 98, 99, 100, 101, 102, 103, 104, 105, 106, 107, 108, 109, 110, 111, 112, 113, 114, 115, 116, 117] (by decide +kernel) (by decide +kernel)
set_option maxRecDepth 20000 in
theorem gX2_trim_X2_worstSample : GoodIn wsX2_trim (wsV RX2 114 RX2 yX2_worstSample wsX2_worstSample) := goodIn_app (goodIn_of _ (by decide +kernel)) ggX2_trim_X2_worstSample
theorem dX2_trim_0 : decode cX2_trim 0 = .ok (.iload_n 1, 1) := by decide +kernel
theorem dX2_trim_1 : decode cX2_trim 1 = .ok (.iconst 0, 1) := by decide +kernel
theorem dX2_trim_2 : decode cX2_trim 2 = .ok (.sipush 9999, 3) := by decide +kernel
theorem dX2_trim_5 : decode cX2_trim 5 = .ok (.invokestatic 57, 3) := by decide +kernel
theorem dX2_trim_8 : decode cX2_trim 8 = .ok (.ifCond .ne 6, 3) := by decide +kernel
theorem dX2_trim_11 : decode cX2_trim 11 = .ok (.bipush (-2), 2) := by decide +kernel
theorem dX2_trim_13 : decode cX2_trim 13 = .ok (.ireturn, 1) := by decide +kernel
theorem dX2_trim_14 : decode cX2_trim 14 = .ok (.aload_n 0, 1) := by decide +kernel
theorem dX2_trim_15 : decode cX2_trim 15 = .ok (.invokevirtual 76, 3) := by decide +kernel
theorem dX2_trim_18 : decode cX2_trim 18 = .ok (.aload_n 0, 1) := by decide +kernel
theorem dX2_trim_19 : decode cX2_trim 19 = .ok (.getfield 29, 3) := by decide +kernel
theorem dX2_trim_22 : decode cX2_trim 22 = .ok (.invokevirtual 79, 3) := by decide +kernel
theorem dX2_trim_25 : decode cX2_trim 25 = .ok (.ifCond .eq 6, 3) := by decide +kernel
theorem dX2_trim_28 : decode cX2_trim 28 = .ok (.bipush (-5), 2) := by decide +kernel
theorem dX2_trim_30 : decode cX2_trim 30 = .ok (.ireturn, 1) := by decide +kernel
theorem dX2_trim_31 : decode cX2_trim 31 = .ok (.aload_n 0, 1) := by decide +kernel
theorem dX2_trim_32 : decode cX2_trim 32 = .ok (.getfield 12, 3) := by decide +kernel
theorem dX2_trim_35 : decode cX2_trim 35 = .ok (.getfield 50, 3) := by decide +kernel
theorem dX2_trim_38 : decode cX2_trim 38 = .ok (.invokestatic 61, 3) := by decide +kernel
theorem dX2_trim_41 : decode cX2_trim 41 = .ok (.istore_n 2, 1) := by decide +kernel
theorem dX2_trim_42 : decode cX2_trim 42 = .ok (.iconst 0, 1) := by decide +kernel
theorem dX2_trim_43 : decode cX2_trim 43 = .ok (.istore_n 3, 1) := by decide +kernel
theorem dX2_trim_44 : decode cX2_trim 44 = .ok (.iload_n 3, 1) := by decide +kernel
theorem dX2_trim_45 : decode cX2_trim 45 = .ok (.bipush 10, 2) := by decide +kernel
theorem dX2_trim_47 : decode cX2_trim 47 = .ok (.if_icmp .ge 41, 3) := by decide +kernel
theorem dX2_trim_50 : decode cX2_trim 50 = .ok (.aload_n 0, 1) := by decide +kernel
theorem dX2_trim_51 : decode cX2_trim 51 = .ok (.iload_n 1, 1) := by decide +kernel
theorem dX2_trim_52 : decode cX2_trim 52 = .ok (.invokevirtual 143, 3) := by decide +kernel
theorem dX2_trim_55 : decode cX2_trim 55 = .ok (.ifCond .eq 33, 3) := by decide +kernel
theorem dX2_trim_58 : decode cX2_trim 58 = .ok (.aload_n 0, 1) := by decide +kernel
theorem dX2_trim_59 : decode cX2_trim 59 = .ok (.getfield 12, 3) := by decide +kernel
theorem dX2_trim_62 : decode cX2_trim 62 = .ok (.dup, 1) := by decide +kernel
theorem dX2_trim_63 : decode cX2_trim 63 = .ok (.getfield 50, 3) := by decide +kernel
theorem dX2_trim_66 : decode cX2_trim 66 = .ok (.iconst 1, 1) := by decide +kernel
theorem dX2_trim_67 : decode cX2_trim 67 = .ok (.aload_n 0, 1) := by decide +kernel
theorem dX2_trim_68 : decode cX2_trim 68 = .ok (.invokevirtual 114, 3) := by decide +kernel
theorem dX2_trim_71 : decode cX2_trim 71 = .ok (.ishl, 1) := by decide +kernel
theorem dX2_trim_72 : decode cX2_trim 72 = .ok (.iconst (-1), 1) := by decide +kernel
theorem dX2_trim_73 : decode cX2_trim 73 = .ok (.ixor, 1) := by decide +kernel
theorem dX2_trim_74 : decode cX2_trim 74 = .ok (.iand, 1) := by decide +kernel
theorem dX2_trim_75 : decode cX2_trim 75 = .ok (.putfield 50, 3) := by decide +kernel
theorem dX2_trim_78 : decode cX2_trim 78 = .ok (.aload_n 0, 1) := by decide +kernel
theorem dX2_trim_79 : decode cX2_trim 79 = .ok (.invokevirtual 76, 3) := by decide +kernel
theorem dX2_trim_82 : decode cX2_trim 82 = .ok (.iinc 3 1, 3) := by decide +kernel
theorem dX2_trim_85 : decode cX2_trim 85 = .ok (.goto (-41), 3) := by decide +kernel
theorem dX2_trim_88 : decode cX2_trim 88 = .ok (.iload_n 2, 1) := by decide +kernel
theorem dX2_trim_89 : decode cX2_trim 89 = .ok (.aload_n 0, 1) := by decide +kernel
theorem dX2_trim_90 : decode cX2_trim 90 = .ok (.getfield 12, 3) := by decide +kernel
theorem dX2_trim_93 : decode cX2_trim 93 = .ok (.getfield 50, 3) := by decide +kernel
theorem dX2_trim_96 : decode cX2_trim 96 = .ok (.invokestatic 61, 3) := by decide +kernel
theorem dX2_trim_99 : decode cX2_trim 99 = .ok (.isub, 1) := by decide +kernel
theorem dX2_trim_100 : decode cX2_trim 100 = .ok (.ireturn, 1) := by decide +kernel
set_option maxRecDepth 20000 in
theorem ggX2_fewest_X2_isBetween : GoodIn wsX2_fewest wsX2_isBetween := goodIn_r _ [6] (by decide +kernel) (by decide +kernel)
set_option maxRecDepth 20000 in
theorem gX2_fewest_X2_isBetween : GoodIn wsX2_fewest (va_wsS RX2 57 yX2_isBetween wsX2_isBetween) := goodIn_app (goodIn_of _ (by decide +kernel)) ggX2_fewest_X2_isBetween
set_option maxRecDepth 20000 in
theorem ggX2_fewest_J6_bitCount_0f7a4 : GoodIn wsX2_fewest wsJ6_bitCount_0f7a4 := goodIn_r _ [10, 11, 12, 13] (by decide +kernel) (by decide +kernel)
set_option maxRecDepth 20000 in
theorem gX2_fewest_J6_bitCount_0f7a4 : GoodIn wsX2_fewest (va_wsS RX2 61 yJ6_bitCount_0f7a4 wsJ6_bitCount_0f7a4) := goodIn_app (goodIn_of _ (by decide +kernel)) ggX2_fewest_J6_bitCount_0f7a4
set_option maxRecDepth 20000 in
theorem ggX2_fewest_X2_leastSetToLeaveOut : GoodIn wsX2_fewest wsX2_leastSetToLeaveOut := goodIn_r _ [17, 1, 2, 7, 8, 9, 10, 11, 12, 13, 18, 19, 20, 5, 21, 22, 23, 24, 25, 26, 27, 28, 29, 30, 31, 32, 33, 34, 35, 36, 37, 38, 39, 40, 41, 42, 43, 44, 45, 46, 47, 48, 49, 50, 51, 52, 53, 54, 55, 56, 57, 58, 59, 60, 61, 62, 63, 64, 65, 66, 67, 68, 69, 70, 71, 72, 73, 74, 75, 76, 77, 78, 79, 80, 81, 82, 83, 84, 85, 86, 87, 88, 89, 90, 91, 92, 93, 94, 95, 96, 97, 98, 99, 100, 101, 102, 103, 104, 105, 106, 107, 108, 109, 110, 111, 112] (by decide +kernel) (by decide +kernel)
set_option maxRecDepth 20000 in
theorem gX2_fewest_X2_leastSetToLeaveOut : GoodIn wsX2_fewest (wsV RX2 146 RX2 yX2_leastSetToLeaveOut wsX2_leastSetToLeaveOut) := goodIn_app (goodIn_of _ (by decide +kernel)) ggX2_fewest_X2_leastSetToLeaveOut
theorem dX2_fewest_0 : decode cX2_fewest 0 = .ok (.iload_n 1, 1) := by decide +kernel
theorem dX2_fewest_1 : decode cX2_fewest 1 = .ok (.iconst 0, 1) := by decide +kernel
theorem dX2_fewest_2 : decode cX2_fewest 2 = .ok (.sipush 9999, 3) := by decide +kernel
theorem dX2_fewest_5 : decode cX2_fewest 5 = .ok (.invokestatic 57, 3) := by decide +kernel
theorem dX2_fewest_8 : decode cX2_fewest 8 = .ok (.ifCond .eq 12, 3) := by decide +kernel
theorem dX2_fewest_11 : decode cX2_fewest 11 = .ok (.iload_n 2, 1) := by decide +kernel
theorem dX2_fewest_12 : decode cX2_fewest 12 = .ok (.iconst 0, 1) := by decide +kernel
theorem dX2_fewest_13 : decode cX2_fewest 13 = .ok (.iconst 1, 1) := by decide +kernel
theorem dX2_fewest_14 : decode cX2_fewest 14 = .ok (.invokestatic 57, 3) := by decide +kernel
theorem dX2_fewest_17 : decode cX2_fewest 17 = .ok (.ifCond .ne 6, 3) := by decide +kernel
theorem dX2_fewest_20 : decode cX2_fewest 20 = .ok (.bipush (-2), 2) := by decide +kernel
theorem dX2_fewest_22 : decode cX2_fewest 22 = .ok (.ireturn, 1) := by decide +kernel
theorem dX2_fewest_23 : decode cX2_fewest 23 = .ok (.aload_n 0, 1) := by decide +kernel
theorem dX2_fewest_24 : decode cX2_fewest 24 = .ok (.getfield 12, 3) := by decide +kernel
theorem dX2_fewest_27 : decode cX2_fewest 27 = .ok (.getfield 50, 3) := by decide +kernel
theorem dX2_fewest_30 : decode cX2_fewest 30 = .ok (.invokestatic 61, 3) := by decide +kernel
theorem dX2_fewest_33 : decode cX2_fewest 33 = .ok (.iconst 3, 1) := by decide +kernel
theorem dX2_fewest_34 : decode cX2_fewest 34 = .ok (.isub, 1) := by decide +kernel
theorem dX2_fewest_35 : decode cX2_fewest 35 = .ok (.istore_n 3, 1) := by decide +kernel
theorem dX2_fewest_36 : decode cX2_fewest 36 = .ok (.iconst 0, 1) := by decide +kernel
theorem dX2_fewest_37 : decode cX2_fewest 37 = .ok (.istore 4, 2) := by decide +kernel
theorem dX2_fewest_39 : decode cX2_fewest 39 = .ok (.iload 4, 2) := by decide +kernel
theorem dX2_fewest_41 : decode cX2_fewest 41 = .ok (.iload_n 3, 1) := by decide +kernel
theorem dX2_fewest_42 : decode cX2_fewest 42 = .ok (.if_icmp .gt 37, 3) := by decide +kernel
theorem dX2_fewest_45 : decode cX2_fewest 45 = .ok (.aload_n 0, 1) := by decide +kernel
theorem dX2_fewest_46 : decode cX2_fewest 46 = .ok (.iload 4, 2) := by decide +kernel
theorem dX2_fewest_48 : decode cX2_fewest 48 = .ok (.iload_n 1, 1) := by decide +kernel
theorem dX2_fewest_49 : decode cX2_fewest 49 = .ok (.invokevirtual 146, 3) := by decide +kernel
theorem dX2_fewest_52 : decode cX2_fewest 52 = .ok (.istore 5, 2) := by decide +kernel
theorem dX2_fewest_54 : decode cX2_fewest 54 = .ok (.iload 5, 2) := by decide +kernel
theorem dX2_fewest_56 : decode cX2_fewest 56 = .ok (.bipush (-6), 2) := by decide +kernel
theorem dX2_fewest_58 : decode cX2_fewest 58 = .ok (.if_icmp .eq 15, 3) := by decide +kernel
theorem dX2_fewest_61 : decode cX2_fewest 61 = .ok (.iload_n 2, 1) := by decide +kernel
theorem dX2_fewest_62 : decode cX2_fewest 62 = .ok (.ifCond .ne 8, 3) := by decide +kernel
theorem dX2_fewest_65 : decode cX2_fewest 65 = .ok (.iload 4, 2) := by decide +kernel
theorem dX2_fewest_67 : decode cX2_fewest 67 = .ok (.goto 5, 3) := by decide +kernel
theorem dX2_fewest_70 : decode cX2_fewest 70 = .ok (.iload 5, 2) := by decide +kernel
theorem dX2_fewest_72 : decode cX2_fewest 72 = .ok (.ireturn, 1) := by decide +kernel
theorem dX2_fewest_73 : decode cX2_fewest 73 = .ok (.iinc 4 1, 3) := by decide +kernel
theorem dX2_fewest_76 : decode cX2_fewest 76 = .ok (.goto (-37), 3) := by decide +kernel
theorem dX2_fewest_79 : decode cX2_fewest 79 = .ok (.bipush (-6), 2) := by decide +kernel
theorem dX2_fewest_81 : decode cX2_fewest 81 = .ok (.ireturn, 1) := by decide +kernel
set_option maxRecDepth 20000 in
theorem ggX2_image_X2_isBetween : GoodIn wsX2_image wsX2_isBetween := goodIn_r _ [8] (by decide +kernel) (by decide +kernel)
set_option maxRecDepth 20000 in
theorem gX2_image_X2_isBetween : GoodIn wsX2_image (va_wsS RX2 57 yX2_isBetween wsX2_isBetween) := goodIn_app (goodIn_of _ (by decide +kernel)) ggX2_image_X2_isBetween
set_option maxRecDepth 20000 in
theorem ggX2_image_X1_become : GoodIn wsX2_image wsX1_become := goodIn_r _ [13, 14, 15, 16, 17, 18, 25, 26, 27, 28, 29] (by decide +kernel) (by decide +kernel)
set_option maxRecDepth 20000 in
theorem gX2_image_X1_become : GoodIn wsX2_image (wsV RX2 149 RX1 yX1_become wsX1_become) := goodIn_app (goodIn_of _ (by decide +kernel)) ggX2_image_X1_become
theorem dX2_image_0 : decode cX2_image 0 = .ok (.iload_n 1, 1) := by decide +kernel
theorem dX2_image_1 : decode cX2_image 1 = .ok (.iconst 0, 1) := by decide +kernel
theorem dX2_image_2 : decode cX2_image 2 = .ok (.iconst 1, 1) := by decide +kernel
theorem dX2_image_3 : decode cX2_image 3 = .ok (.invokestatic 57, 3) := by decide +kernel
theorem dX2_image_6 : decode cX2_image 6 = .ok (.ifCond .ne 6, 3) := by decide +kernel
theorem dX2_image_9 : decode cX2_image 9 = .ok (.bipush (-2), 2) := by decide +kernel
theorem dX2_image_11 : decode cX2_image 11 = .ok (.ireturn, 1) := by decide +kernel
theorem dX2_image_12 : decode cX2_image 12 = .ok (.iload_n 1, 1) := by decide +kernel
theorem dX2_image_13 : decode cX2_image 13 = .ok (.ifCond .ne 10, 3) := by decide +kernel
theorem dX2_image_16 : decode cX2_image 16 = .ok (.aload_n 0, 1) := by decide +kernel
theorem dX2_image_17 : decode cX2_image 17 = .ok (.getfield 16, 3) := by decide +kernel
theorem dX2_image_20 : decode cX2_image 20 = .ok (.goto 7, 3) := by decide +kernel
theorem dX2_image_23 : decode cX2_image 23 = .ok (.aload_n 0, 1) := by decide +kernel
theorem dX2_image_24 : decode cX2_image 24 = .ok (.getfield 19, 3) := by decide +kernel
theorem dX2_image_27 : decode cX2_image 27 = .ok (.aload_n 0, 1) := by decide +kernel
theorem dX2_image_28 : decode cX2_image 28 = .ok (.getfield 12, 3) := by decide +kernel
theorem dX2_image_31 : decode cX2_image 31 = .ok (.invokevirtual 149, 3) := by decide +kernel
theorem dX2_image_34 : decode cX2_image 34 = .ok (.aload_n 0, 1) := by decide +kernel
theorem dX2_image_35 : decode cX2_image 35 = .ok (.dup, 1) := by decide +kernel
theorem dX2_image_36 : decode cX2_image 36 = .ok (.getfield 22, 3) := by decide +kernel
theorem dX2_image_39 : decode cX2_image 39 = .ok (.iconst 1, 1) := by decide +kernel
theorem dX2_image_40 : decode cX2_image 40 = .ok (.iload_n 1, 1) := by decide +kernel
theorem dX2_image_41 : decode cX2_image 41 = .ok (.ishl, 1) := by decide +kernel
theorem dX2_image_42 : decode cX2_image 42 = .ok (.ior, 1) := by decide +kernel
theorem dX2_image_43 : decode cX2_image 43 = .ok (.putfield 22, 3) := by decide +kernel
theorem dX2_image_46 : decode cX2_image 46 = .ok (.iconst 1, 1) := by decide +kernel
theorem dX2_image_47 : decode cX2_image 47 = .ok (.ireturn, 1) := by decide +kernel
set_option maxRecDepth 20000 in
theorem ggX2_restore_X2_isBetween : GoodIn wsX2_restore wsX2_isBetween := goodIn_r _ [8] (by decide +kernel) (by decide +kernel)
set_option maxRecDepth 20000 in
theorem gX2_restore_X2_isBetween : GoodIn wsX2_restore (va_wsS RX2 57 yX2_isBetween wsX2_isBetween) := goodIn_app (goodIn_of _ (by decide +kernel)) ggX2_restore_X2_isBetween
set_option maxRecDepth 20000 in
theorem ggX2_restore_X2_isIn : GoodIn wsX2_restore wsX2_isIn := goodIn_r _ [11] (by decide +kernel) (by decide +kernel)
set_option maxRecDepth 20000 in
theorem gX2_restore_X2_isIn : GoodIn wsX2_restore (va_wsS RX2 67 yX2_isIn wsX2_isIn) := goodIn_app (goodIn_of _ (by decide +kernel)) ggX2_restore_X2_isIn
set_option maxRecDepth 20000 in
theorem ggX2_restore_X1_become : GoodIn wsX2_restore wsX1_become := goodIn_r _ [16, 17, 18, 19, 20, 21, 28, 29, 30, 31, 32] (by decide +kernel) (by decide +kernel)
set_option maxRecDepth 20000 in
theorem gX2_restore_X1_become : GoodIn wsX2_restore (wsV RX2 149 RX1 yX1_become wsX1_become) := goodIn_app (goodIn_of _ (by decide +kernel)) ggX2_restore_X1_become
theorem dX2_restore_0 : decode cX2_restore 0 = .ok (.iload_n 1, 1) := by decide +kernel
theorem dX2_restore_1 : decode cX2_restore 1 = .ok (.iconst 0, 1) := by decide +kernel
theorem dX2_restore_2 : decode cX2_restore 2 = .ok (.iconst 1, 1) := by decide +kernel
theorem dX2_restore_3 : decode cX2_restore 3 = .ok (.invokestatic 57, 3) := by decide +kernel
theorem dX2_restore_6 : decode cX2_restore 6 = .ok (.ifCond .ne 6, 3) := by decide +kernel
theorem dX2_restore_9 : decode cX2_restore 9 = .ok (.bipush (-2), 2) := by decide +kernel
theorem dX2_restore_11 : decode cX2_restore 11 = .ok (.ireturn, 1) := by decide +kernel
theorem dX2_restore_12 : decode cX2_restore 12 = .ok (.aload_n 0, 1) := by decide +kernel
theorem dX2_restore_13 : decode cX2_restore 13 = .ok (.getfield 22, 3) := by decide +kernel
theorem dX2_restore_16 : decode cX2_restore 16 = .ok (.iload_n 1, 1) := by decide +kernel
theorem dX2_restore_17 : decode cX2_restore 17 = .ok (.invokestatic 67, 3) := by decide +kernel
theorem dX2_restore_20 : decode cX2_restore 20 = .ok (.ifCond .ne 6, 3) := by decide +kernel
theorem dX2_restore_23 : decode cX2_restore 23 = .ok (.bipush (-3), 2) := by decide +kernel
theorem dX2_restore_25 : decode cX2_restore 25 = .ok (.ireturn, 1) := by decide +kernel
theorem dX2_restore_26 : decode cX2_restore 26 = .ok (.aload_n 0, 1) := by decide +kernel
theorem dX2_restore_27 : decode cX2_restore 27 = .ok (.getfield 12, 3) := by decide +kernel
theorem dX2_restore_30 : decode cX2_restore 30 = .ok (.iload_n 1, 1) := by decide +kernel
theorem dX2_restore_31 : decode cX2_restore 31 = .ok (.ifCond .ne 10, 3) := by decide +kernel
theorem dX2_restore_34 : decode cX2_restore 34 = .ok (.aload_n 0, 1) := by decide +kernel
theorem dX2_restore_35 : decode cX2_restore 35 = .ok (.getfield 16, 3) := by decide +kernel
theorem dX2_restore_38 : decode cX2_restore 38 = .ok (.goto 7, 3) := by decide +kernel
theorem dX2_restore_41 : decode cX2_restore 41 = .ok (.aload_n 0, 1) := by decide +kernel
theorem dX2_restore_42 : decode cX2_restore 42 = .ok (.getfield 19, 3) := by decide +kernel
theorem dX2_restore_45 : decode cX2_restore 45 = .ok (.invokevirtual 149, 3) := by decide +kernel
theorem dX2_restore_48 : decode cX2_restore 48 = .ok (.iconst 1, 1) := by decide +kernel
theorem dX2_restore_49 : decode cX2_restore 49 = .ok (.ireturn, 1) := by decide +kernel
set_option maxRecDepth 20000 in
theorem ggX2_count_J6_bitCount_0f7a4 : GoodIn wsX2_count wsJ6_bitCount_0f7a4 := goodIn_r _ [10, 11, 12, 13] (by decide +kernel) (by decide +kernel)
set_option maxRecDepth 20000 in
theorem gX2_count_J6_bitCount_0f7a4 : GoodIn wsX2_count (va_wsS RX2 61 yJ6_bitCount_0f7a4 wsJ6_bitCount_0f7a4) := goodIn_app (goodIn_of _ (by decide +kernel)) ggX2_count_J6_bitCount_0f7a4
set_option maxRecDepth 20000 in
theorem ggX2_count_X2_layTheRound : GoodIn wsX2_count wsX2_layTheRound := goodIn_r _ [18, 5, 1, 3, 19, 20, 21, 17, 22, 23, 24, 25, 26, 27, 28, 29, 30, 31, 32, 33, 34, 35, 36, 37, 38, 39, 40, 41, 42, 43, 44, 45, 46, 47, 48, 49, 50, 51, 52, 53, 54, 55, 60, 61, 62, 63, 64, 65, 66, 67, 68, 69, 70, 71, 72, 73, 74, 75, 76, 77, 78, 79, 80, 81, 82, 83] (by decide +kernel) (by decide +kernel)
set_option maxRecDepth 20000 in
theorem gX2_count_X2_layTheRound : GoodIn wsX2_count (wsV RX2 76 RX2 yX2_layTheRound wsX2_layTheRound) := goodIn_app (goodIn_of _ (by decide +kernel)) ggX2_count_X2_layTheRound
set_option maxRecDepth 20000 in
theorem ggX2_count_X0_isFlat : GoodIn wsX2_count wsX0_isFlat := goodIn_r _ [59, 52, 71, 72, 73, 74, 75, 76, 77, 78, 79, 80, 81, 82, 83] (by decide +kernel) (by decide +kernel)
set_option maxRecDepth 20000 in
theorem gX2_count_X0_isFlat : GoodIn wsX2_count (wsV RX2 79 RX0 yX0_isFlat wsX0_isFlat) := goodIn_app (goodIn_of _ (by decide +kernel)) ggX2_count_X0_isFlat
theorem dX2_count_0 : decode cX2_count 0 = .ok (.iload_n 1, 1) := by decide +kernel
theorem dX2_count_1 : decode cX2_count 1 = .ok (.tableswitch 99 0 5 #[39, 47, 58, 66, 74, 94], 39) := by decide +kernel
theorem dX2_count_40 : decode cX2_count 40 = .ok (.aload_n 0, 1) := by decide +kernel
theorem dX2_count_41 : decode cX2_count 41 = .ok (.getfield 12, 3) := by decide +kernel
theorem dX2_count_44 : decode cX2_count 44 = .ok (.getfield 40, 3) := by decide +kernel
theorem dX2_count_47 : decode cX2_count 47 = .ok (.ireturn, 1) := by decide +kernel
theorem dX2_count_48 : decode cX2_count 48 = .ok (.aload_n 0, 1) := by decide +kernel
theorem dX2_count_49 : decode cX2_count 49 = .ok (.getfield 12, 3) := by decide +kernel
theorem dX2_count_52 : decode cX2_count 52 = .ok (.getfield 50, 3) := by decide +kernel
theorem dX2_count_55 : decode cX2_count 55 = .ok (.invokestatic 61, 3) := by decide +kernel
theorem dX2_count_58 : decode cX2_count 58 = .ok (.ireturn, 1) := by decide +kernel
theorem dX2_count_59 : decode cX2_count 59 = .ok (.aload_n 0, 1) := by decide +kernel
theorem dX2_count_60 : decode cX2_count 60 = .ok (.getfield 12, 3) := by decide +kernel
theorem dX2_count_63 : decode cX2_count 63 = .ok (.getfield 50, 3) := by decide +kernel
theorem dX2_count_66 : decode cX2_count 66 = .ok (.ireturn, 1) := by decide +kernel
theorem dX2_count_67 : decode cX2_count 67 = .ok (.aload_n 0, 1) := by decide +kernel
theorem dX2_count_68 : decode cX2_count 68 = .ok (.getfield 12, 3) := by decide +kernel
theorem dX2_count_71 : decode cX2_count 71 = .ok (.getfield 122, 3) := by decide +kernel
theorem dX2_count_74 : decode cX2_count 74 = .ok (.ireturn, 1) := by decide +kernel
theorem dX2_count_75 : decode cX2_count 75 = .ok (.aload_n 0, 1) := by decide +kernel
theorem dX2_count_76 : decode cX2_count 76 = .ok (.invokevirtual 76, 3) := by decide +kernel
theorem dX2_count_79 : decode cX2_count 79 = .ok (.aload_n 0, 1) := by decide +kernel
theorem dX2_count_80 : decode cX2_count 80 = .ok (.getfield 29, 3) := by decide +kernel
theorem dX2_count_83 : decode cX2_count 83 = .ok (.invokevirtual 79, 3) := by decide +kernel
theorem dX2_count_86 : decode cX2_count 86 = .ok (.ifCond .eq 7, 3) := by decide +kernel
theorem dX2_count_89 : decode cX2_count 89 = .ok (.iconst 1, 1) := by decide +kernel
theorem dX2_count_90 : decode cX2_count 90 = .ok (.goto 4, 3) := by decide +kernel
theorem dX2_count_93 : decode cX2_count 93 = .ok (.iconst 0, 1) := by decide +kernel
theorem dX2_count_94 : decode cX2_count 94 = .ok (.ireturn, 1) := by decide +kernel
theorem dX2_count_95 : decode cX2_count 95 = .ok (.aload_n 0, 1) := by decide +kernel
theorem dX2_count_96 : decode cX2_count 96 = .ok (.getfield 22, 3) := by decide +kernel
theorem dX2_count_99 : decode cX2_count 99 = .ok (.ireturn, 1) := by decide +kernel
theorem dX2_count_100 : decode cX2_count 100 = .ok (.bipush (-2), 2) := by decide +kernel
theorem dX2_count_102 : decode cX2_count 102 = .ok (.ireturn, 1) := by decide +kernel
theorem dX2_isBetween_0 : decode cX2_isBetween 0 = .ok (.iload_n 0, 1) := by decide +kernel
theorem dX2_isBetween_1 : decode cX2_isBetween 1 = .ok (.iload_n 1, 1) := by decide +kernel
theorem dX2_isBetween_2 : decode cX2_isBetween 2 = .ok (.if_icmp .lt 12, 3) := by decide +kernel
theorem dX2_isBetween_5 : decode cX2_isBetween 5 = .ok (.iload_n 0, 1) := by decide +kernel
theorem dX2_isBetween_6 : decode cX2_isBetween 6 = .ok (.iload_n 2, 1) := by decide +kernel
theorem dX2_isBetween_7 : decode cX2_isBetween 7 = .ok (.if_icmp .gt 7, 3) := by decide +kernel
theorem dX2_isBetween_10 : decode cX2_isBetween 10 = .ok (.iconst 1, 1) := by decide +kernel
theorem dX2_isBetween_11 : decode cX2_isBetween 11 = .ok (.goto 4, 3) := by decide +kernel
theorem dX2_isBetween_14 : decode cX2_isBetween 14 = .ok (.iconst 0, 1) := by decide +kernel
theorem dX2_isBetween_15 : decode cX2_isBetween 15 = .ok (.ireturn, 1) := by decide +kernel
set_option maxRecDepth 20000 in
theorem ggX2_isPlace_X2_isBetween : GoodIn wsX2_isPlace wsX2_isBetween := goodIn_r _ [4] (by decide +kernel) (by decide +kernel)
set_option maxRecDepth 20000 in
theorem gX2_isPlace_X2_isBetween : GoodIn wsX2_isPlace (va_wsS RX2 57 yX2_isBetween wsX2_isBetween) := goodIn_app (goodIn_of _ (by decide +kernel)) ggX2_isPlace_X2_isBetween
theorem dX2_isPlace_0 : decode cX2_isPlace 0 = .ok (.iload_n 0, 1) := by decide +kernel
theorem dX2_isPlace_1 : decode cX2_isPlace 1 = .ok (.bipush (-40), 2) := by decide +kernel
theorem dX2_isPlace_3 : decode cX2_isPlace 3 = .ok (.bipush 40, 2) := by decide +kernel
theorem dX2_isPlace_5 : decode cX2_isPlace 5 = .ok (.invokestatic 57, 3) := by decide +kernel
theorem dX2_isPlace_8 : decode cX2_isPlace 8 = .ok (.ifCond .eq 18, 3) := by decide +kernel
theorem dX2_isPlace_11 : decode cX2_isPlace 11 = .ok (.iload_n 1, 1) := by decide +kernel
theorem dX2_isPlace_12 : decode cX2_isPlace 12 = .ok (.bipush (-40), 2) := by decide +kernel
theorem dX2_isPlace_14 : decode cX2_isPlace 14 = .ok (.bipush 40, 2) := by decide +kernel
theorem dX2_isPlace_16 : decode cX2_isPlace 16 = .ok (.invokestatic 57, 3) := by decide +kernel
theorem dX2_isPlace_19 : decode cX2_isPlace 19 = .ok (.ifCond .eq 7, 3) := by decide +kernel
theorem dX2_isPlace_22 : decode cX2_isPlace 22 = .ok (.iconst 1, 1) := by decide +kernel
theorem dX2_isPlace_23 : decode cX2_isPlace 23 = .ok (.goto 4, 3) := by decide +kernel
theorem dX2_isPlace_26 : decode cX2_isPlace 26 = .ok (.iconst 0, 1) := by decide +kernel
theorem dX2_isPlace_27 : decode cX2_isPlace 27 = .ok (.ireturn, 1) := by decide +kernel
theorem dX2_isSample_0 : decode cX2_isSample 0 = .ok (.iload_n 1, 1) := by decide +kernel
theorem dX2_isSample_1 : decode cX2_isSample 1 = .ok (.ifCond .lt 24, 3) := by decide +kernel
theorem dX2_isSample_4 : decode cX2_isSample 4 = .ok (.iload_n 1, 1) := by decide +kernel
theorem dX2_isSample_5 : decode cX2_isSample 5 = .ok (.aload_n 0, 1) := by decide +kernel
theorem dX2_isSample_6 : decode cX2_isSample 6 = .ok (.getfield 12, 3) := by decide +kernel
theorem dX2_isSample_9 : decode cX2_isSample 9 = .ok (.getfield 40, 3) := by decide +kernel
theorem dX2_isSample_12 : decode cX2_isSample 12 = .ok (.if_icmp .ge 13, 3) := by decide +kernel
theorem dX2_isSample_15 : decode cX2_isSample 15 = .ok (.iload_n 1, 1) := by decide +kernel
theorem dX2_isSample_16 : decode cX2_isSample 16 = .ok (.bipush 10, 2) := by decide +kernel
theorem dX2_isSample_18 : decode cX2_isSample 18 = .ok (.if_icmp .ge 7, 3) := by decide +kernel
theorem dX2_isSample_21 : decode cX2_isSample 21 = .ok (.iconst 1, 1) := by decide +kernel
theorem dX2_isSample_22 : decode cX2_isSample 22 = .ok (.goto 4, 3) := by decide +kernel
theorem dX2_isSample_25 : decode cX2_isSample 25 = .ok (.iconst 0, 1) := by decide +kernel
theorem dX2_isSample_26 : decode cX2_isSample 26 = .ok (.ireturn, 1) := by decide +kernel
theorem dX2_isIn_0 : decode cX2_isIn 0 = .ok (.iload_n 0, 1) := by decide +kernel
theorem dX2_isIn_1 : decode cX2_isIn 1 = .ok (.iload_n 1, 1) := by decide +kernel
theorem dX2_isIn_2 : decode cX2_isIn 2 = .ok (.ishr, 1) := by decide +kernel
theorem dX2_isIn_3 : decode cX2_isIn 3 = .ok (.iconst 1, 1) := by decide +kernel
theorem dX2_isIn_4 : decode cX2_isIn 4 = .ok (.iand, 1) := by decide +kernel
theorem dX2_isIn_5 : decode cX2_isIn 5 = .ok (.iconst 1, 1) := by decide +kernel
theorem dX2_isIn_6 : decode cX2_isIn 6 = .ok (.if_icmp .ne 7, 3) := by decide +kernel
