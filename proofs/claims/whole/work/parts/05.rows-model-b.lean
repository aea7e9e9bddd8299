theorem dX3_ones_10 : decode cX3_ones 10 = .ok (.iload_n 1, 1) := by decide +kernel
theorem dX3_ones_11 : decode cX3_ones 11 = .ok (.iload_n 0, 1) := by decide +kernel
theorem dX3_ones_12 : decode cX3_ones 12 = .ok (.iload_n 2, 1) := by decide +kernel
theorem dX3_ones_13 : decode cX3_ones 13 = .ok (.ishr, 1) := by decide +kernel
theorem dX3_ones_14 : decode cX3_ones 14 = .ok (.iconst 1, 1) := by decide +kernel
theorem dX3_ones_15 : decode cX3_ones 15 = .ok (.iand, 1) := by decide +kernel
theorem dX3_ones_16 : decode cX3_ones 16 = .ok (.iadd, 1) := by decide +kernel
theorem dX3_ones_17 : decode cX3_ones 17 = .ok (.istore_n 1, 1) := by decide +kernel
theorem dX3_ones_18 : decode cX3_ones 18 = .ok (.iinc 2 1, 3) := by decide +kernel
theorem dX3_ones_21 : decode cX3_ones 21 = .ok (.goto (-17), 3) := by decide +kernel
theorem dX3_ones_24 : decode cX3_ones 24 = .ok (.iload_n 1, 1) := by decide +kernel
theorem dX3_ones_25 : decode cX3_ones 25 = .ok (.ireturn, 1) := by decide +kernel
set_option maxRecDepth 20000 in
theorem ggX3_safeOf_X3_hisBits : GoodIn wsX3_safeOf wsX3_hisBits := goodIn_r _ [6, 7, 8, 45, 46, 47, 48, 49, 50, 51, 52, 53, 54, 55, 56, 57, 58, 59, 60, 61, 62, 63, 64, 65, 66, 67, 68] (by decide +kernel) (by decide +kernel)
set_option maxRecDepth 20000 in
theorem gX3_safeOf_X3_hisBits : GoodIn wsX3_safeOf (wsV RX3 84 RX3 yX3_hisBits wsX3_hisBits) := goodIn_app (goodIn_of _ (by decide +kernel)) ggX3_safeOf_X3_hisBits
set_option maxRecDepth 20000 in
theorem ggX3_safeOf_X3_heldBits : GoodIn wsX3_safeOf wsX3_heldBits := goodIn_r _ [12, 7, 8, 13, 2, 3, 4, 5, 6, 45, 46, 47, 48, 49, 50, 51, 52, 53, 54, 55, 56, 57, 58, 59, 60, 61, 62, 63, 64, 65, 66, 67, 68] (by decide +kernel) (by decide +kernel)
set_option maxRecDepth 20000 in
theorem gX3_safeOf_X3_heldBits : GoodIn wsX3_safeOf (wsV RX3 107 RX3 yX3_heldBits wsX3_heldBits) := goodIn_app (goodIn_of _ (by decide +kernel)) ggX3_safeOf_X3_heldBits
set_option maxRecDepth 20000 in
theorem ggX3_safeOf_X3_ones : GoodIn wsX3_safeOf wsX3_ones := goodIn_r _ [16] (by decide +kernel) (by decide +kernel)
set_option maxRecDepth 20000 in
theorem gX3_safeOf_X3_ones : GoodIn wsX3_safeOf (va_wsS RX3 145 yX3_ones wsX3_ones) := goodIn_app (goodIn_of _ (by decide +kernel)) ggX3_safeOf_X3_ones
set_option maxRecDepth 20000 in
theorem ggX3_safeOf_X3_lossBy : GoodIn wsX3_safeOf wsX3_lossBy := goodIn_r _ [20, 21, 22, 23, 5, 24, 25, 26, 27, 28, 29, 30, 31, 32, 33, 34, 35, 36, 37, 38, 39, 7, 8, 40, 41, 42, 43, 44, 45, 46, 47, 48, 49, 50, 51, 52, 53, 54, 55, 56, 57, 58, 59, 60, 61, 62, 63, 64, 65, 66, 67, 68] (by decide +kernel) (by decide +kernel)
set_option maxRecDepth 20000 in
theorem gX3_safeOf_X3_lossBy : GoodIn wsX3_safeOf (wsV RX3 114 RX3 yX3_lossBy wsX3_lossBy) := goodIn_app (goodIn_of _ (by decide +kernel)) ggX3_safeOf_X3_lossBy
theorem dX3_safeOf_0 : decode cX3_safeOf 0 = .ok (.aload_n 0, 1) := by decide +kernel
theorem dX3_safeOf_1 : decode cX3_safeOf 1 = .ok (.iload_n 1, 1) := by decide +kernel
theorem dX3_safeOf_2 : decode cX3_safeOf 2 = .ok (.invokevirtual 84, 3) := by decide +kernel
theorem dX3_safeOf_5 : decode cX3_safeOf 5 = .ok (.istore_n 3, 1) := by decide +kernel
theorem dX3_safeOf_6 : decode cX3_safeOf 6 = .ok (.aload_n 0, 1) := by decide +kernel
theorem dX3_safeOf_7 : decode cX3_safeOf 7 = .ok (.iload_n 1, 1) := by decide +kernel
theorem dX3_safeOf_8 : decode cX3_safeOf 8 = .ok (.aload_n 0, 1) := by decide +kernel
theorem dX3_safeOf_9 : decode cX3_safeOf 9 = .ok (.getfield 104, 3) := by decide +kernel
theorem dX3_safeOf_12 : decode cX3_safeOf 12 = .ok (.invokevirtual 107, 3) := by decide +kernel
theorem dX3_safeOf_15 : decode cX3_safeOf 15 = .ok (.istore 4, 2) := by decide +kernel
theorem dX3_safeOf_17 : decode cX3_safeOf 17 = .ok (.iconst (-1), 1) := by decide +kernel
theorem dX3_safeOf_18 : decode cX3_safeOf 18 = .ok (.istore 5, 2) := by decide +kernel
theorem dX3_safeOf_20 : decode cX3_safeOf 20 = .ok (.iconst 0, 1) := by decide +kernel
theorem dX3_safeOf_21 : decode cX3_safeOf 21 = .ok (.istore 6, 2) := by decide +kernel
theorem dX3_safeOf_23 : decode cX3_safeOf 23 = .ok (.iload 6, 2) := by decide +kernel
theorem dX3_safeOf_25 : decode cX3_safeOf 25 = .ok (.bipush 64, 2) := by decide +kernel
theorem dX3_safeOf_27 : decode cX3_safeOf 27 = .ok (.if_icmp .ge 73, 3) := by decide +kernel
theorem dX3_safeOf_30 : decode cX3_safeOf 30 = .ok (.iload 6, 2) := by decide +kernel
theorem dX3_safeOf_32 : decode cX3_safeOf 32 = .ok (.iload_n 3, 1) := by decide +kernel
theorem dX3_safeOf_33 : decode cX3_safeOf 33 = .ok (.iconst (-1), 1) := by decide +kernel
theorem dX3_safeOf_34 : decode cX3_safeOf 34 = .ok (.ixor, 1) := by decide +kernel
theorem dX3_safeOf_35 : decode cX3_safeOf 35 = .ok (.iand, 1) := by decide +kernel
theorem dX3_safeOf_36 : decode cX3_safeOf 36 = .ok (.ifCond .ne 26, 3) := by decide +kernel
theorem dX3_safeOf_39 : decode cX3_safeOf 39 = .ok (.iload 5, 2) := by decide +kernel
theorem dX3_safeOf_41 : decode cX3_safeOf 41 = .ok (.iconst (-1), 1) := by decide +kernel
theorem dX3_safeOf_42 : decode cX3_safeOf 42 = .ok (.if_icmp .eq 16, 3) := by decide +kernel
theorem dX3_safeOf_45 : decode cX3_safeOf 45 = .ok (.iload 6, 2) := by decide +kernel
theorem dX3_safeOf_47 : decode cX3_safeOf 47 = .ok (.invokestatic 145, 3) := by decide +kernel
theorem dX3_safeOf_50 : decode cX3_safeOf 50 = .ok (.iload 5, 2) := by decide +kernel
theorem dX3_safeOf_52 : decode cX3_safeOf 52 = .ok (.invokestatic 145, 3) := by decide +kernel
theorem dX3_safeOf_55 : decode cX3_safeOf 55 = .ok (.if_icmp .ge 7, 3) := by decide +kernel
theorem dX3_safeOf_58 : decode cX3_safeOf 58 = .ok (.iconst 1, 1) := by decide +kernel
theorem dX3_safeOf_59 : decode cX3_safeOf 59 = .ok (.goto 4, 3) := by decide +kernel
theorem dX3_safeOf_62 : decode cX3_safeOf 62 = .ok (.iconst 0, 1) := by decide +kernel
theorem dX3_safeOf_63 : decode cX3_safeOf 63 = .ok (.istore 7, 2) := by decide +kernel
theorem dX3_safeOf_65 : decode cX3_safeOf 65 = .ok (.iload 7, 2) := by decide +kernel
theorem dX3_safeOf_67 : decode cX3_safeOf 67 = .ok (.ifCond .eq 23, 3) := by decide +kernel
theorem dX3_safeOf_70 : decode cX3_safeOf 70 = .ok (.aload_n 0, 1) := by decide +kernel
theorem dX3_safeOf_71 : decode cX3_safeOf 71 = .ok (.iload_n 1, 1) := by decide +kernel
theorem dX3_safeOf_72 : decode cX3_safeOf 72 = .ok (.iload 4, 2) := by decide +kernel
theorem dX3_safeOf_74 : decode cX3_safeOf 74 = .ok (.iload 6, 2) := by decide +kernel
theorem dX3_safeOf_76 : decode cX3_safeOf 76 = .ok (.iconst (-1), 1) := by decide +kernel
theorem dX3_safeOf_77 : decode cX3_safeOf 77 = .ok (.ixor, 1) := by decide +kernel
theorem dX3_safeOf_78 : decode cX3_safeOf 78 = .ok (.iand, 1) := by decide +kernel
theorem dX3_safeOf_79 : decode cX3_safeOf 79 = .ok (.invokevirtual 114, 3) := by decide +kernel
theorem dX3_safeOf_82 : decode cX3_safeOf 82 = .ok (.ifCond .ne 8, 3) := by decide +kernel
theorem dX3_safeOf_85 : decode cX3_safeOf 85 = .ok (.iload 6, 2) := by decide +kernel
theorem dX3_safeOf_87 : decode cX3_safeOf 87 = .ok (.goto 5, 3) := by decide +kernel
theorem dX3_safeOf_90 : decode cX3_safeOf 90 = .ok (.iload 5, 2) := by decide +kernel
theorem dX3_safeOf_92 : decode cX3_safeOf 92 = .ok (.istore 5, 2) := by decide +kernel
theorem dX3_safeOf_94 : decode cX3_safeOf 94 = .ok (.iinc 6 1, 3) := by decide +kernel
theorem dX3_safeOf_97 : decode cX3_safeOf 97 = .ok (.goto (-74), 3) := by decide +kernel
theorem dX3_safeOf_100 : decode cX3_safeOf 100 = .ok (.iload 5, 2) := by decide +kernel
theorem dX3_safeOf_102 : decode cX3_safeOf 102 = .ok (.iconst (-1), 1) := by decide +kernel
theorem dX3_safeOf_103 : decode cX3_safeOf 103 = .ok (.if_icmp .eq 8, 3) := by decide +kernel
theorem dX3_safeOf_106 : decode cX3_safeOf 106 = .ok (.iload_n 2, 1) := by decide +kernel
theorem dX3_safeOf_107 : decode cX3_safeOf 107 = .ok (.iconst 1, 1) := by decide +kernel
theorem dX3_safeOf_108 : decode cX3_safeOf 108 = .ok (.if_icmp .ne 8, 3) := by decide +kernel
theorem dX3_safeOf_111 : decode cX3_safeOf 111 = .ok (.iload 5, 2) := by decide +kernel
theorem dX3_safeOf_113 : decode cX3_safeOf 113 = .ok (.goto 8, 3) := by decide +kernel
theorem dX3_safeOf_116 : decode cX3_safeOf 116 = .ok (.iload 5, 2) := by decide +kernel
theorem dX3_safeOf_118 : decode cX3_safeOf 118 = .ok (.invokestatic 145, 3) := by decide +kernel
theorem dX3_safeOf_121 : decode cX3_safeOf 121 = .ok (.ireturn, 1) := by decide +kernel
set_option maxRecDepth 20000 in
theorem ggX3_safe_X3_isHolder : GoodIn wsX3_safe wsX3_isHolder := goodIn_r _ [5, 6, 7, 8, 4, 9, 61, 62, 63, 64, 65, 66, 67, 68, 69, 70, 71, 72, 73, 74, 75, 76, 77, 78, 79, 80, 81, 82, 83, 84] (by decide +kernel) (by decide +kernel)
set_option maxRecDepth 20000 in
theorem gX3_safe_X3_isHolder : GoodIn wsX3_safe (wsV RX3 117 RX3 yX3_isHolder wsX3_isHolder) := goodIn_app (goodIn_of _ (by decide +kernel)) ggX3_safe_X3_isHolder
set_option maxRecDepth 20000 in
theorem ggX3_safe_X3_in : GoodIn wsX3_safe wsX3_in := goodIn_r _ [9] (by decide +kernel) (by decide +kernel)
set_option maxRecDepth 20000 in
theorem gX3_safe_X3_in : GoodIn wsX3_safe (va_wsS RX3 49 yX3_in wsX3_in) := goodIn_app (goodIn_of _ (by decide +kernel)) ggX3_safe_X3_in
set_option maxRecDepth 20000 in
theorem ggX3_safe_X3_lives : GoodIn wsX3_safe wsX3_lives := goodIn_r _ [13, 14, 61, 62, 63, 64, 65, 66, 67, 68, 69, 70, 71, 72, 73, 74, 75, 76, 77, 78, 79, 80, 81, 82, 83, 84] (by decide +kernel) (by decide +kernel)
set_option maxRecDepth 20000 in
theorem gX3_safe_X3_lives : GoodIn wsX3_safe (wsV RX3 110 RX3 yX3_lives wsX3_lives) := goodIn_app (goodIn_of _ (by decide +kernel)) ggX3_safe_X3_lives
set_option maxRecDepth 20000 in
theorem ggX3_safe_X3_safeOf : GoodIn wsX3_safe wsX3_safeOf := goodIn_r _ [18, 19, 20, 21, 22, 4, 23, 24, 25, 26, 27, 28, 29, 30, 31, 32, 33, 34, 35, 36, 37, 38, 39, 40, 41, 42, 43, 44, 45, 14, 46, 47, 48, 49, 50, 51, 52, 53, 54, 55, 56, 57, 58, 59, 60, 61, 62, 63, 64, 65, 66, 67, 68, 69, 70, 71, 72, 73, 74, 75, 76, 77, 78, 79, 80, 81, 82, 83, 84] (by decide +kernel) (by decide +kernel)
set_option maxRecDepth 20000 in
theorem gX3_safe_X3_safeOf : GoodIn wsX3_safe (wsV RX3 148 RX3 yX3_safeOf wsX3_safeOf) := goodIn_app (goodIn_of _ (by decide +kernel)) ggX3_safe_X3_safeOf
theorem dX3_safe_0 : decode cX3_safe 0 = .ok (.aload_n 0, 1) := by decide +kernel
theorem dX3_safe_1 : decode cX3_safe 1 = .ok (.iload_n 1, 1) := by decide +kernel
theorem dX3_safe_2 : decode cX3_safe 2 = .ok (.invokevirtual 117, 3) := by decide +kernel
theorem dX3_safe_5 : decode cX3_safe 5 = .ok (.ifCond .ne 6, 3) := by decide +kernel
theorem dX3_safe_8 : decode cX3_safe 8 = .ok (.bipush (-101), 2) := by decide +kernel
theorem dX3_safe_10 : decode cX3_safe 10 = .ok (.ireturn, 1) := by decide +kernel
theorem dX3_safe_11 : decode cX3_safe 11 = .ok (.iload_n 2, 1) := by decide +kernel
theorem dX3_safe_12 : decode cX3_safe 12 = .ok (.i2l, 1) := by decide +kernel
theorem dX3_safe_13 : decode cX3_safe 13 = .ok (.lconst 0, 1) := by decide +kernel
theorem dX3_safe_14 : decode cX3_safe 14 = .ok (.lconst 1, 1) := by decide +kernel
theorem dX3_safe_15 : decode cX3_safe 15 = .ok (.invokestatic 49, 3) := by decide +kernel
theorem dX3_safe_18 : decode cX3_safe 18 = .ok (.ifCond .ne 6, 3) := by decide +kernel
theorem dX3_safe_21 : decode cX3_safe 21 = .ok (.bipush (-102), 2) := by decide +kernel
theorem dX3_safe_23 : decode cX3_safe 23 = .ok (.ireturn, 1) := by decide +kernel
theorem dX3_safe_24 : decode cX3_safe 24 = .ok (.aload_n 0, 1) := by decide +kernel
theorem dX3_safe_25 : decode cX3_safe 25 = .ok (.iload_n 1, 1) := by decide +kernel
theorem dX3_safe_26 : decode cX3_safe 26 = .ok (.invokevirtual 110, 3) := by decide +kernel
theorem dX3_safe_29 : decode cX3_safe 29 = .ok (.ifCond .eq 12, 3) := by decide +kernel
theorem dX3_safe_32 : decode cX3_safe 32 = .ok (.aload_n 0, 1) := by decide +kernel
theorem dX3_safe_33 : decode cX3_safe 33 = .ok (.iload_n 1, 1) := by decide +kernel
theorem dX3_safe_34 : decode cX3_safe 34 = .ok (.iload_n 2, 1) := by decide +kernel
theorem dX3_safe_35 : decode cX3_safe 35 = .ok (.invokevirtual 148, 3) := by decide +kernel
theorem dX3_safe_38 : decode cX3_safe 38 = .ok (.goto 5, 3) := by decide +kernel
theorem dX3_safe_41 : decode cX3_safe 41 = .ok (.bipush (-103), 2) := by decide +kernel
theorem dX3_safe_43 : decode cX3_safe 43 = .ok (.ireturn, 1) := by decide +kernel
set_option maxRecDepth 20000 in
theorem ggX3_lostBy_X3_heldBits : GoodIn wsX3_lostBy wsX3_heldBits := goodIn_r _ [8, 9, 10, 3, 11, 12, 13, 7, 14, 42, 43, 44, 45, 46, 47, 48, 49, 50, 51, 52, 53, 54, 55, 56, 57, 58, 59, 60, 61, 62, 63, 64, 65] (by decide +kernel) (by decide +kernel)
set_option maxRecDepth 20000 in
theorem gX3_lostBy_X3_heldBits : GoodIn wsX3_lostBy (wsV RX3 107 RX3 yX3_heldBits wsX3_heldBits) := goodIn_app (goodIn_of _ (by decide +kernel)) ggX3_lostBy_X3_heldBits
set_option maxRecDepth 20000 in
theorem ggX3_lostBy_X3_lossBy : GoodIn wsX3_lostBy wsX3_lossBy := goodIn_r _ [18, 19, 20, 21, 7, 22, 23, 24, 25, 26, 1, 27, 28, 29, 30, 31, 32, 33, 34, 35, 36, 9, 10, 37, 38, 39, 40, 41, 42, 43, 44, 45, 46, 47, 48, 49, 50, 51, 52, 53, 54, 55, 56, 57, 58, 59, 60, 61, 62, 63, 64, 65] (by decide +kernel) (by decide +kernel)
set_option maxRecDepth 20000 in
theorem gX3_lostBy_X3_lossBy : GoodIn wsX3_lostBy (wsV RX3 114 RX3 yX3_lossBy wsX3_lossBy) := goodIn_app (goodIn_of _ (by decide +kernel)) ggX3_lostBy_X3_lossBy
theorem dX3_lostBy_0 : decode cX3_lostBy 0 = .ok (.aload_n 0, 1) := by decide +kernel
theorem dX3_lostBy_1 : decode cX3_lostBy 1 = .ok (.getfield 13, 3) := by decide +kernel
theorem dX3_lostBy_4 : decode cX3_lostBy 4 = .ok (.iconst 4, 1) := by decide +kernel
theorem dX3_lostBy_5 : decode cX3_lostBy 5 = .ok (.iload_n 1, 1) := by decide +kernel
theorem dX3_lostBy_6 : decode cX3_lostBy 6 = .ok (.imul, 1) := by decide +kernel
theorem dX3_lostBy_7 : decode cX3_lostBy 7 = .ok (.iconst 1, 1) := by decide +kernel
theorem dX3_lostBy_8 : decode cX3_lostBy 8 = .ok (.iadd, 1) := by decide +kernel
theorem dX3_lostBy_9 : decode cX3_lostBy 9 = .ok (.iaload, 1) := by decide +kernel
theorem dX3_lostBy_10 : decode cX3_lostBy 10 = .ok (.istore 4, 2) := by decide +kernel
theorem dX3_lostBy_12 : decode cX3_lostBy 12 = .ok (.iconst 1, 1) := by decide +kernel
theorem dX3_lostBy_13 : decode cX3_lostBy 13 = .ok (.istore 5, 2) := by decide +kernel
theorem dX3_lostBy_15 : decode cX3_lostBy 15 = .ok (.iconst 0, 1) := by decide +kernel
theorem dX3_lostBy_16 : decode cX3_lostBy 16 = .ok (.istore 6, 2) := by decide +kernel
theorem dX3_lostBy_18 : decode cX3_lostBy 18 = .ok (.iconst 0, 1) := by decide +kernel
theorem dX3_lostBy_19 : decode cX3_lostBy 19 = .ok (.istore 7, 2) := by decide +kernel
theorem dX3_lostBy_21 : decode cX3_lostBy 21 = .ok (.iload 7, 2) := by decide +kernel
theorem dX3_lostBy_23 : decode cX3_lostBy 23 = .ok (.iload_n 3, 1) := by decide +kernel
theorem dX3_lostBy_24 : decode cX3_lostBy 24 = .ok (.if_icmp .ge 102, 3) := by decide +kernel
theorem dX3_lostBy_27 : decode cX3_lostBy 27 = .ok (.aload_n 0, 1) := by decide +kernel
theorem dX3_lostBy_28 : decode cX3_lostBy 28 = .ok (.iload_n 1, 1) := by decide +kernel
theorem dX3_lostBy_29 : decode cX3_lostBy 29 = .ok (.aload_n 0, 1) := by decide +kernel
theorem dX3_lostBy_30 : decode cX3_lostBy 30 = .ok (.getfield 104, 3) := by decide +kernel
theorem dX3_lostBy_33 : decode cX3_lostBy 33 = .ok (.iload 7, 2) := by decide +kernel
theorem dX3_lostBy_35 : decode cX3_lostBy 35 = .ok (.iadd, 1) := by decide +kernel
theorem dX3_lostBy_36 : decode cX3_lostBy 36 = .ok (.invokevirtual 107, 3) := by decide +kernel
theorem dX3_lostBy_39 : decode cX3_lostBy 39 = .ok (.istore 8, 2) := by decide +kernel
theorem dX3_lostBy_41 : decode cX3_lostBy 41 = .ok (.iload 7, 2) := by decide +kernel
theorem dX3_lostBy_43 : decode cX3_lostBy 43 = .ok (.aload_n 0, 1) := by decide +kernel
theorem dX3_lostBy_44 : decode cX3_lostBy 44 = .ok (.getfield 41, 3) := by decide +kernel
theorem dX3_lostBy_47 : decode cX3_lostBy 47 = .ok (.if_icmp .ge 8, 3) := by decide +kernel
theorem dX3_lostBy_50 : decode cX3_lostBy 50 = .ok (.iload 8, 2) := by decide +kernel
theorem dX3_lostBy_52 : decode cX3_lostBy 52 = .ok (.goto 9, 3) := by decide +kernel
theorem dX3_lostBy_55 : decode cX3_lostBy 55 = .ok (.iload 8, 2) := by decide +kernel
theorem dX3_lostBy_57 : decode cX3_lostBy 57 = .ok (.iload_n 2, 1) := by decide +kernel
theorem dX3_lostBy_58 : decode cX3_lostBy 58 = .ok (.iconst (-1), 1) := by decide +kernel
theorem dX3_lostBy_59 : decode cX3_lostBy 59 = .ok (.ixor, 1) := by decide +kernel
theorem dX3_lostBy_60 : decode cX3_lostBy 60 = .ok (.iand, 1) := by decide +kernel
theorem dX3_lostBy_61 : decode cX3_lostBy 61 = .ok (.istore 8, 2) := by decide +kernel
theorem dX3_lostBy_63 : decode cX3_lostBy 63 = .ok (.iload 5, 2) := by decide +kernel
theorem dX3_lostBy_65 : decode cX3_lostBy 65 = .ok (.iload 4, 2) := by decide +kernel
theorem dX3_lostBy_67 : decode cX3_lostBy 67 = .ok (.imul, 1) := by decide +kernel
theorem dX3_lostBy_68 : decode cX3_lostBy 68 = .ok (.aload_n 0, 1) := by decide +kernel
theorem dX3_lostBy_69 : decode cX3_lostBy 69 = .ok (.iload_n 1, 1) := by decide +kernel
theorem dX3_lostBy_70 : decode cX3_lostBy 70 = .ok (.iload 8, 2) := by decide +kernel
theorem dX3_lostBy_72 : decode cX3_lostBy 72 = .ok (.invokevirtual 114, 3) := by decide +kernel
theorem dX3_lostBy_75 : decode cX3_lostBy 75 = .ok (.imul, 1) := by decide +kernel
theorem dX3_lostBy_76 : decode cX3_lostBy 76 = .ok (.istore 9, 2) := by decide +kernel
theorem dX3_lostBy_78 : decode cX3_lostBy 78 = .ok (.iload 7, 2) := by decide +kernel
theorem dX3_lostBy_80 : decode cX3_lostBy 80 = .ok (.iconst 1, 1) := by decide +kernel
theorem dX3_lostBy_81 : decode cX3_lostBy 81 = .ok (.iadd, 1) := by decide +kernel
theorem dX3_lostBy_82 : decode cX3_lostBy 82 = .ok (.istore 10, 2) := by decide +kernel
theorem dX3_lostBy_84 : decode cX3_lostBy 84 = .ok (.iload 10, 2) := by decide +kernel
theorem dX3_lostBy_86 : decode cX3_lostBy 86 = .ok (.iload_n 3, 1) := by decide +kernel
theorem dX3_lostBy_87 : decode cX3_lostBy 87 = .ok (.if_icmp .ge 16, 3) := by decide +kernel
theorem dX3_lostBy_90 : decode cX3_lostBy 90 = .ok (.iload 9, 2) := by decide +kernel
theorem dX3_lostBy_92 : decode cX3_lostBy 92 = .ok (.bipush 10, 2) := by decide +kernel
theorem dX3_lostBy_94 : decode cX3_lostBy 94 = .ok (.imul, 1) := by decide +kernel
theorem dX3_lostBy_95 : decode cX3_lostBy 95 = .ok (.istore 9, 2) := by decide +kernel
theorem dX3_lostBy_97 : decode cX3_lostBy 97 = .ok (.iinc 10 1, 3) := by decide +kernel
theorem dX3_lostBy_100 : decode cX3_lostBy 100 = .ok (.goto (-16), 3) := by decide +kernel
theorem dX3_lostBy_103 : decode cX3_lostBy 103 = .ok (.iload 6, 2) := by decide +kernel
theorem dX3_lostBy_105 : decode cX3_lostBy 105 = .ok (.iload 9, 2) := by decide +kernel
theorem dX3_lostBy_107 : decode cX3_lostBy 107 = .ok (.iadd, 1) := by decide +kernel
theorem dX3_lostBy_108 : decode cX3_lostBy 108 = .ok (.istore 6, 2) := by decide +kernel
theorem dX3_lostBy_110 : decode cX3_lostBy 110 = .ok (.iload 5, 2) := by decide +kernel
theorem dX3_lostBy_112 : decode cX3_lostBy 112 = .ok (.bipush 10, 2) := by decide +kernel
theorem dX3_lostBy_114 : decode cX3_lostBy 114 = .ok (.iload 4, 2) := by decide +kernel
theorem dX3_lostBy_116 : decode cX3_lostBy 116 = .ok (.isub, 1) := by decide +kernel
theorem dX3_lostBy_117 : decode cX3_lostBy 117 = .ok (.imul, 1) := by decide +kernel
theorem dX3_lostBy_118 : decode cX3_lostBy 118 = .ok (.istore 5, 2) := by decide +kernel
theorem dX3_lostBy_120 : decode cX3_lostBy 120 = .ok (.iinc 7 1, 3) := by decide +kernel
theorem dX3_lostBy_123 : decode cX3_lostBy 123 = .ok (.goto (-102), 3) := by decide +kernel
theorem dX3_lostBy_126 : decode cX3_lostBy 126 = .ok (.iload 6, 2) := by decide +kernel
theorem dX3_lostBy_128 : decode cX3_lostBy 128 = .ok (.ireturn, 1) := by decide +kernel
set_option maxRecDepth 20000 in
theorem ggX3_givingOf_X3_hisBits : GoodIn wsX3_givingOf wsX3_hisBits := goodIn_r _ [5, 6, 7, 49, 50, 51, 52, 53, 54, 55, 56, 57, 58, 59, 60, 61, 62, 63, 64, 65, 66, 67, 68, 69, 70, 71, 72] (by decide +kernel) (by decide +kernel)
set_option maxRecDepth 20000 in
theorem gX3_givingOf_X3_hisBits : GoodIn wsX3_givingOf (wsV RX3 84 RX3 yX3_hisBits wsX3_hisBits) := goodIn_app (goodIn_of _ (by decide +kernel)) ggX3_givingOf_X3_hisBits
set_option maxRecDepth 20000 in
theorem ggX3_givingOf_X3_lostBy : GoodIn wsX3_givingOf wsX3_lostBy := goodIn_r _ [11, 12, 13, 14, 15, 16, 17, 4, 18, 6, 7, 1, 2, 3, 5, 19, 20, 21, 22, 23, 24, 25, 26, 27, 28, 29, 30, 31, 32, 33, 34, 35, 36, 37, 38, 39, 40, 41, 42, 43, 44, 45, 49, 50, 51, 52, 53, 54, 55, 56, 57, 58, 59, 60, 61, 62, 63, 64, 65, 66, 67, 68, 69, 70, 71, 72] (by decide +kernel) (by decide +kernel)
set_option maxRecDepth 20000 in
theorem gX3_givingOf_X3_lostBy : GoodIn wsX3_givingOf (wsV RX3 151 RX3 yX3_lostBy wsX3_lostBy) := goodIn_app (goodIn_of _ (by decide +kernel)) ggX3_givingOf_X3_lostBy
set_option maxRecDepth 20000 in
theorem ggX3_givingOf_X3_ones : GoodIn wsX3_givingOf wsX3_ones := goodIn_r _ [48] (by decide +kernel) (by decide +kernel)
set_option maxRecDepth 20000 in
theorem gX3_givingOf_X3_ones : GoodIn wsX3_givingOf (va_wsS RX3 145 yX3_ones wsX3_ones) := goodIn_app (goodIn_of _ (by decide +kernel)) ggX3_givingOf_X3_ones
theorem dX3_givingOf_0 : decode cX3_givingOf 0 = .ok (.aload_n 0, 1) := by decide +kernel
theorem dX3_givingOf_1 : decode cX3_givingOf 1 = .ok (.iload_n 1, 1) := by decide +kernel
theorem dX3_givingOf_2 : decode cX3_givingOf 2 = .ok (.invokevirtual 84, 3) := by decide +kernel
theorem dX3_givingOf_5 : decode cX3_givingOf 5 = .ok (.istore_n 3, 1) := by decide +kernel
theorem dX3_givingOf_6 : decode cX3_givingOf 6 = .ok (.iconst (-1), 1) := by decide +kernel
theorem dX3_givingOf_7 : decode cX3_givingOf 7 = .ok (.istore 4, 2) := by decide +kernel
theorem dX3_givingOf_9 : decode cX3_givingOf 9 = .ok (.iconst (-1), 1) := by decide +kernel
theorem dX3_givingOf_10 : decode cX3_givingOf 10 = .ok (.istore 5, 2) := by decide +kernel
theorem dX3_givingOf_12 : decode cX3_givingOf 12 = .ok (.iconst 0, 1) := by decide +kernel
theorem dX3_givingOf_13 : decode cX3_givingOf 13 = .ok (.istore 6, 2) := by decide +kernel
theorem dX3_givingOf_15 : decode cX3_givingOf 15 = .ok (.iload 6, 2) := by decide +kernel
theorem dX3_givingOf_17 : decode cX3_givingOf 17 = .ok (.bipush 64, 2) := by decide +kernel
theorem dX3_givingOf_19 : decode cX3_givingOf 19 = .ok (.if_icmp .ge 96, 3) := by decide +kernel
theorem dX3_givingOf_22 : decode cX3_givingOf 22 = .ok (.iload 6, 2) := by decide +kernel
theorem dX3_givingOf_24 : decode cX3_givingOf 24 = .ok (.iload_n 3, 1) := by decide +kernel
theorem dX3_givingOf_25 : decode cX3_givingOf 25 = .ok (.iconst (-1), 1) := by decide +kernel
theorem dX3_givingOf_26 : decode cX3_givingOf 26 = .ok (.ixor, 1) := by decide +kernel
theorem dX3_givingOf_27 : decode cX3_givingOf 27 = .ok (.iand, 1) := by decide +kernel
theorem dX3_givingOf_28 : decode cX3_givingOf 28 = .ok (.ifCond .ne 81, 3) := by decide +kernel
theorem dX3_givingOf_31 : decode cX3_givingOf 31 = .ok (.aload_n 0, 1) := by decide +kernel
theorem dX3_givingOf_32 : decode cX3_givingOf 32 = .ok (.iload_n 1, 1) := by decide +kernel
theorem dX3_givingOf_33 : decode cX3_givingOf 33 = .ok (.iload 6, 2) := by decide +kernel
theorem dX3_givingOf_35 : decode cX3_givingOf 35 = .ok (.iload_n 2, 1) := by decide +kernel
theorem dX3_givingOf_36 : decode cX3_givingOf 36 = .ok (.invokevirtual 151, 3) := by decide +kernel
theorem dX3_givingOf_39 : decode cX3_givingOf 39 = .ok (.istore 7, 2) := by decide +kernel
theorem dX3_givingOf_41 : decode cX3_givingOf 41 = .ok (.iload 4, 2) := by decide +kernel
theorem dX3_givingOf_43 : decode cX3_givingOf 43 = .ok (.iconst (-1), 1) := by decide +kernel
theorem dX3_givingOf_44 : decode cX3_givingOf 44 = .ok (.if_icmp .eq 30, 3) := by decide +kernel
theorem dX3_givingOf_47 : decode cX3_givingOf 47 = .ok (.iload 7, 2) := by decide +kernel
theorem dX3_givingOf_49 : decode cX3_givingOf 49 = .ok (.iload 5, 2) := by decide +kernel
theorem dX3_givingOf_51 : decode cX3_givingOf 51 = .ok (.if_icmp .lt 23, 3) := by decide +kernel
theorem dX3_givingOf_54 : decode cX3_givingOf 54 = .ok (.iload 7, 2) := by decide +kernel
theorem dX3_givingOf_56 : decode cX3_givingOf 56 = .ok (.iload 5, 2) := by decide +kernel
theorem dX3_givingOf_58 : decode cX3_givingOf 58 = .ok (.if_icmp .ne 20, 3) := by decide +kernel
theorem dX3_givingOf_61 : decode cX3_givingOf 61 = .ok (.iload 6, 2) := by decide +kernel
theorem dX3_givingOf_63 : decode cX3_givingOf 63 = .ok (.invokestatic 145, 3) := by decide +kernel
theorem dX3_givingOf_66 : decode cX3_givingOf 66 = .ok (.iload 4, 2) := by decide +kernel
theorem dX3_givingOf_68 : decode cX3_givingOf 68 = .ok (.invokestatic 145, 3) := by decide +kernel
theorem dX3_givingOf_71 : decode cX3_givingOf 71 = .ok (.if_icmp .ge 7, 3) := by decide +kernel
theorem dX3_givingOf_74 : decode cX3_givingOf 74 = .ok (.iconst 1, 1) := by decide +kernel
theorem dX3_givingOf_75 : decode cX3_givingOf 75 = .ok (.goto 4, 3) := by decide +kernel
theorem dX3_givingOf_78 : decode cX3_givingOf 78 = .ok (.iconst 0, 1) := by decide +kernel
theorem dX3_givingOf_79 : decode cX3_givingOf 79 = .ok (.istore 8, 2) := by decide +kernel
theorem dX3_givingOf_81 : decode cX3_givingOf 81 = .ok (.iload 8, 2) := by decide +kernel
theorem dX3_givingOf_83 : decode cX3_givingOf 83 = .ok (.ifCond .eq 8, 3) := by decide +kernel
theorem dX3_givingOf_86 : decode cX3_givingOf 86 = .ok (.iload 6, 2) := by decide +kernel
theorem dX3_givingOf_88 : decode cX3_givingOf 88 = .ok (.goto 5, 3) := by decide +kernel
theorem dX3_givingOf_91 : decode cX3_givingOf 91 = .ok (.iload 4, 2) := by decide +kernel
theorem dX3_givingOf_93 : decode cX3_givingOf 93 = .ok (.istore 4, 2) := by decide +kernel
theorem dX3_givingOf_95 : decode cX3_givingOf 95 = .ok (.iload 8, 2) := by decide +kernel
theorem dX3_givingOf_97 : decode cX3_givingOf 97 = .ok (.ifCond .eq 8, 3) := by decide +kernel
theorem dX3_givingOf_100 : decode cX3_givingOf 100 = .ok (.iload 7, 2) := by decide +kernel
theorem dX3_givingOf_102 : decode cX3_givingOf 102 = .ok (.goto 5, 3) := by decide +kernel
theorem dX3_givingOf_105 : decode cX3_givingOf 105 = .ok (.iload 5, 2) := by decide +kernel
theorem dX3_givingOf_107 : decode cX3_givingOf 107 = .ok (.istore 5, 2) := by decide +kernel
theorem dX3_givingOf_109 : decode cX3_givingOf 109 = .ok (.iinc 6 1, 3) := by decide +kernel
theorem dX3_givingOf_112 : decode cX3_givingOf 112 = .ok (.goto (-97), 3) := by decide +kernel
theorem dX3_givingOf_115 : decode cX3_givingOf 115 = .ok (.iload 4, 2) := by decide +kernel
theorem dX3_givingOf_117 : decode cX3_givingOf 117 = .ok (.ireturn, 1) := by decide +kernel
set_option maxRecDepth 20000 in
theorem ggX3_giving_X3_isHolder : GoodIn wsX3_giving wsX3_isHolder := goodIn_r _ [6, 7, 8, 9, 5, 10, 66, 67, 68, 69, 70, 71, 72, 73, 74, 75, 76, 77, 78, 79, 80, 81, 82, 83, 84, 85, 86, 87, 88, 89] (by decide +kernel) (by decide +kernel)
set_option maxRecDepth 20000 in
theorem gX3_giving_X3_isHolder : GoodIn wsX3_giving (wsV RX3 117 RX3 yX3_isHolder wsX3_isHolder) := goodIn_app (goodIn_of _ (by decide +kernel)) ggX3_giving_X3_isHolder
set_option maxRecDepth 20000 in
theorem ggX3_giving_X3_in : GoodIn wsX3_giving wsX3_in := goodIn_r _ [10] (by decide +kernel) (by decide +kernel)
set_option maxRecDepth 20000 in
theorem gX3_giving_X3_in : GoodIn wsX3_giving (va_wsS RX3 49 yX3_in wsX3_in) := goodIn_app (goodIn_of _ (by decide +kernel)) ggX3_giving_X3_in
set_option maxRecDepth 20000 in
theorem ggX3_giving_X3_lives : GoodIn wsX3_giving wsX3_lives := goodIn_r _ [14, 15, 66, 67, 68, 69, 70, 71, 72, 73, 74, 75, 76, 77, 78, 79, 80, 81, 82, 83, 84, 85, 86, 87, 88, 89] (by decide +kernel) (by decide +kernel)
set_option maxRecDepth 20000 in
theorem gX3_giving_X3_lives : GoodIn wsX3_giving (wsV RX3 110 RX3 yX3_lives wsX3_lives) := goodIn_app (goodIn_of _ (by decide +kernel)) ggX3_giving_X3_lives
set_option maxRecDepth 20000 in
theorem ggX3_giving_X3_givingOf : GoodIn wsX3_giving wsX3_givingOf := goodIn_r _ [19, 20, 21, 22, 5, 23, 24, 25, 26, 27, 28, 29, 15, 30, 31, 32, 33, 34, 35, 36, 37, 38, 39, 40, 41, 42, 43, 44, 45, 46, 47, 48, 49, 50, 51, 52, 53, 54, 55, 56, 57, 58, 59, 60, 61, 62, 63, 64, 65, 66, 67, 68, 69, 70, 71, 72, 73, 74, 75, 76, 77, 78, 79, 80, 81, 82, 83, 84, 85, 86, 87, 88, 89] (by decide +kernel) (by decide +kernel)
set_option maxRecDepth 20000 in
theorem gX3_giving_X3_givingOf : GoodIn wsX3_giving (wsV RX3 155 RX3 yX3_givingOf wsX3_givingOf) := goodIn_app (goodIn_of _ (by decide +kernel)) ggX3_giving_X3_givingOf
theorem dX3_giving_0 : decode cX3_giving 0 = .ok (.aload_n 0, 1) := by decide +kernel
theorem dX3_giving_1 : decode cX3_giving 1 = .ok (.iload_n 1, 1) := by decide +kernel
theorem dX3_giving_2 : decode cX3_giving 2 = .ok (.invokevirtual 117, 3) := by decide +kernel
theorem dX3_giving_5 : decode cX3_giving 5 = .ok (.ifCond .ne 6, 3) := by decide +kernel
theorem dX3_giving_8 : decode cX3_giving 8 = .ok (.bipush (-101), 2) := by decide +kernel
theorem dX3_giving_10 : decode cX3_giving 10 = .ok (.ireturn, 1) := by decide +kernel
theorem dX3_giving_11 : decode cX3_giving 11 = .ok (.iload_n 2, 1) := by decide +kernel
theorem dX3_giving_12 : decode cX3_giving 12 = .ok (.i2l, 1) := by decide +kernel
theorem dX3_giving_13 : decode cX3_giving 13 = .ok (.lconst 1, 1) := by decide +kernel
theorem dX3_giving_14 : decode cX3_giving 14 = .ok (.ldc2_w 82, 3) := by decide +kernel
theorem dX3_giving_17 : decode cX3_giving 17 = .ok (.invokestatic 49, 3) := by decide +kernel
theorem dX3_giving_20 : decode cX3_giving 20 = .ok (.ifCond .ne 6, 3) := by decide +kernel
theorem dX3_giving_23 : decode cX3_giving 23 = .ok (.bipush (-102), 2) := by decide +kernel
theorem dX3_giving_25 : decode cX3_giving 25 = .ok (.ireturn, 1) := by decide +kernel
theorem dX3_giving_26 : decode cX3_giving 26 = .ok (.aload_n 0, 1) := by decide +kernel
theorem dX3_giving_27 : decode cX3_giving 27 = .ok (.iload_n 1, 1) := by decide +kernel
theorem dX3_giving_28 : decode cX3_giving 28 = .ok (.invokevirtual 110, 3) := by decide +kernel
theorem dX3_giving_31 : decode cX3_giving 31 = .ok (.ifCond .eq 12, 3) := by decide +kernel
theorem dX3_giving_34 : decode cX3_giving 34 = .ok (.aload_n 0, 1) := by decide +kernel
theorem dX3_giving_35 : decode cX3_giving 35 = .ok (.iload_n 1, 1) := by decide +kernel
theorem dX3_giving_36 : decode cX3_giving 36 = .ok (.iload_n 2, 1) := by decide +kernel
theorem dX3_giving_37 : decode cX3_giving 37 = .ok (.invokevirtual 155, 3) := by decide +kernel
theorem dX3_giving_40 : decode cX3_giving 40 = .ok (.goto 5, 3) := by decide +kernel
theorem dX3_giving_43 : decode cX3_giving 43 = .ok (.bipush (-103), 2) := by decide +kernel
theorem dX3_giving_45 : decode cX3_giving 45 = .ok (.ireturn, 1) := by decide +kernel
theorem dX3_term_0 : decode cX3_term 0 = .ok (.iload_n 0, 1) := by decide +kernel
theorem dX3_term_1 : decode cX3_term 1 = .ok (.istore_n 3, 1) := by decide +kernel
theorem dX3_term_2 : decode cX3_term 2 = .ok (.iload_n 1, 1) := by decide +kernel
theorem dX3_term_3 : decode cX3_term 3 = .ok (.istore 4, 2) := by decide +kernel
theorem dX3_term_5 : decode cX3_term 5 = .ok (.iload_n 3, 1) := by decide +kernel
theorem dX3_term_6 : decode cX3_term 6 = .ok (.ifCond .eq 18, 3) := by decide +kernel
theorem dX3_term_9 : decode cX3_term 9 = .ok (.iload 4, 2) := by decide +kernel
theorem dX3_term_11 : decode cX3_term 11 = .ok (.iload_n 3, 1) := by decide +kernel
theorem dX3_term_12 : decode cX3_term 12 = .ok (.irem, 1) := by decide +kernel
theorem dX3_term_13 : decode cX3_term 13 = .ok (.istore 5, 2) := by decide +kernel
theorem dX3_term_15 : decode cX3_term 15 = .ok (.iload_n 3, 1) := by decide +kernel
theorem dX3_term_16 : decode cX3_term 16 = .ok (.istore 4, 2) := by decide +kernel
theorem dX3_term_18 : decode cX3_term 18 = .ok (.iload 5, 2) := by decide +kernel
theorem dX3_term_20 : decode cX3_term 20 = .ok (.istore_n 3, 1) := by decide +kernel
theorem dX3_term_21 : decode cX3_term 21 = .ok (.goto (-16), 3) := by decide +kernel
theorem dX3_term_24 : decode cX3_term 24 = .ok (.iload_n 2, 1) := by decide +kernel
theorem dX3_term_25 : decode cX3_term 25 = .ok (.ifCond .ne 10, 3) := by decide +kernel
theorem dX3_term_28 : decode cX3_term 28 = .ok (.iload_n 0, 1) := by decide +kernel
theorem dX3_term_29 : decode cX3_term 29 = .ok (.iload 4, 2) := by decide +kernel
theorem dX3_term_31 : decode cX3_term 31 = .ok (.idiv, 1) := by decide +kernel
theorem dX3_term_32 : decode cX3_term 32 = .ok (.goto 7, 3) := by decide +kernel
theorem dX3_term_35 : decode cX3_term 35 = .ok (.iload_n 1, 1) := by decide +kernel
theorem dX3_term_36 : decode cX3_term 36 = .ok (.iload 4, 2) := by decide +kernel
theorem dX3_term_38 : decode cX3_term 38 = .ok (.idiv, 1) := by decide +kernel
theorem dX3_term_39 : decode cX3_term 39 = .ok (.ireturn, 1) := by decide +kernel
set_option maxRecDepth 20000 in
theorem ggX3_meanOf_X3_givingOf : GoodIn wsX3_meanOf wsX3_givingOf := goodIn_r _ [5, 6, 7, 8, 4, 9, 10, 11, 12, 13, 14, 15, 16, 17, 18, 19, 20, 21, 22, 23, 24, 25, 26, 27, 28, 29, 30, 31, 32, 33, 34, 35, 36, 37, 38, 39, 40, 41, 42, 43, 44, 45, 46, 47, 48, 49, 50, 51, 52, 56, 57, 58, 59, 60, 61, 62, 63, 64, 65, 66, 67, 68, 69, 70, 71, 72, 73, 74, 75, 76, 77, 78, 79] (by decide +kernel) (by decide +kernel)
set_option maxRecDepth 20000 in
theorem gX3_meanOf_X3_givingOf : GoodIn wsX3_meanOf (wsV RX3 155 RX3 yX3_givingOf wsX3_givingOf) := goodIn_app (goodIn_of _ (by decide +kernel)) ggX3_meanOf_X3_givingOf
set_option maxRecDepth 20000 in
theorem ggX3_meanOf_X3_lostBy : GoodIn wsX3_meanOf wsX3_lostBy := goodIn_r _ [15, 16, 17, 18, 19, 20, 21, 4, 22, 10, 11, 6, 7, 8, 9, 23, 24, 25, 26, 27, 28, 29, 30, 31, 32, 33, 34, 35, 36, 37, 38, 39, 40, 41, 42, 43, 44, 45, 46, 47, 48, 49, 56, 57, 58, 59, 60, 61, 62, 63, 64, 65, 66, 67, 68, 69, 70, 71, 72, 73, 74, 75, 76, 77, 78, 79] (by decide +kernel) (by decide +kernel)
set_option maxRecDepth 20000 in
theorem gX3_meanOf_X3_lostBy : GoodIn wsX3_meanOf (wsV RX3 151 RX3 yX3_lostBy wsX3_lostBy) := goodIn_app (goodIn_of _ (by decide +kernel)) ggX3_meanOf_X3_lostBy
set_option maxRecDepth 20000 in
theorem ggX3_meanOf_X3_term : GoodIn wsX3_meanOf wsX3_term := goodIn_r _ [55] (by decide +kernel) (by decide +kernel)
set_option maxRecDepth 20000 in
theorem gX3_meanOf_X3_term : GoodIn wsX3_meanOf (va_wsS RX3 158 yX3_term wsX3_term) := goodIn_app (goodIn_of _ (by decide +kernel)) ggX3_meanOf_X3_term
theorem dX3_meanOf_0 : decode cX3_meanOf 0 = .ok (.iconst 1, 1) := by decide +kernel
theorem dX3_meanOf_1 : decode cX3_meanOf 1 = .ok (.istore 4, 2) := by decide +kernel
theorem dX3_meanOf_3 : decode cX3_meanOf 3 = .ok (.iconst 0, 1) := by decide +kernel
theorem dX3_meanOf_4 : decode cX3_meanOf 4 = .ok (.istore 5, 2) := by decide +kernel
theorem dX3_meanOf_6 : decode cX3_meanOf 6 = .ok (.iload 5, 2) := by decide +kernel
theorem dX3_meanOf_8 : decode cX3_meanOf 8 = .ok (.iload_n 2, 1) := by decide +kernel
theorem dX3_meanOf_9 : decode cX3_meanOf 9 = .ok (.if_icmp .ge 16, 3) := by decide +kernel
theorem dX3_meanOf_12 : decode cX3_meanOf 12 = .ok (.iload 4, 2) := by decide +kernel
theorem dX3_meanOf_14 : decode cX3_meanOf 14 = .ok (.bipush 10, 2) := by decide +kernel
theorem dX3_meanOf_16 : decode cX3_meanOf 16 = .ok (.imul, 1) := by decide +kernel
theorem dX3_meanOf_17 : decode cX3_meanOf 17 = .ok (.istore 4, 2) := by decide +kernel
theorem dX3_meanOf_19 : decode cX3_meanOf 19 = .ok (.iinc 5 1, 3) := by decide +kernel
theorem dX3_meanOf_22 : decode cX3_meanOf 22 = .ok (.goto (-16), 3) := by decide +kernel
theorem dX3_meanOf_25 : decode cX3_meanOf 25 = .ok (.aload_n 0, 1) := by decide +kernel
theorem dX3_meanOf_26 : decode cX3_meanOf 26 = .ok (.iload_n 1, 1) := by decide +kernel
theorem dX3_meanOf_27 : decode cX3_meanOf 27 = .ok (.aload_n 0, 1) := by decide +kernel
theorem dX3_meanOf_28 : decode cX3_meanOf 28 = .ok (.iload_n 1, 1) := by decide +kernel
theorem dX3_meanOf_29 : decode cX3_meanOf 29 = .ok (.iload_n 2, 1) := by decide +kernel
theorem dX3_meanOf_30 : decode cX3_meanOf 30 = .ok (.invokevirtual 155, 3) := by decide +kernel
theorem dX3_meanOf_33 : decode cX3_meanOf 33 = .ok (.iload_n 2, 1) := by decide +kernel
theorem dX3_meanOf_34 : decode cX3_meanOf 34 = .ok (.invokevirtual 151, 3) := by decide +kernel
theorem dX3_meanOf_37 : decode cX3_meanOf 37 = .ok (.iload 4, 2) := by decide +kernel
theorem dX3_meanOf_39 : decode cX3_meanOf 39 = .ok (.iload_n 3, 1) := by decide +kernel
theorem dX3_meanOf_40 : decode cX3_meanOf 40 = .ok (.invokestatic 158, 3) := by decide +kernel
theorem dX3_meanOf_43 : decode cX3_meanOf 43 = .ok (.ireturn, 1) := by decide +kernel
set_option maxRecDepth 20000 in
theorem ggX3_mean_X3_isHolder : GoodIn wsX3_mean wsX3_isHolder := goodIn_r _ [6, 7, 8, 9, 5, 10, 73, 74, 75, 76, 77, 78, 79, 80, 81, 82, 83, 84, 85, 86, 87, 88, 89, 90, 91, 92, 93, 94, 95, 96] (by decide +kernel) (by decide +kernel)
set_option maxRecDepth 20000 in
theorem gX3_mean_X3_isHolder : GoodIn wsX3_mean (wsV RX3 117 RX3 yX3_isHolder wsX3_isHolder) := goodIn_app (goodIn_of _ (by decide +kernel)) ggX3_mean_X3_isHolder
set_option maxRecDepth 20000 in
theorem ggX3_mean_X3_in : GoodIn wsX3_mean wsX3_in := goodIn_r _ [10] (by decide +kernel) (by decide +kernel)
set_option maxRecDepth 20000 in
theorem gX3_mean_X3_in : GoodIn wsX3_mean (va_wsS RX3 49 yX3_in wsX3_in) := goodIn_app (goodIn_of _ (by decide +kernel)) ggX3_mean_X3_in
set_option maxRecDepth 20000 in
theorem ggX3_mean_X3_lives : GoodIn wsX3_mean wsX3_lives := goodIn_r _ [14, 15, 73, 74, 75, 76, 77, 78, 79, 80, 81, 82, 83, 84, 85, 86, 87, 88, 89, 90, 91, 92, 93, 94, 95, 96] (by decide +kernel) (by decide +kernel)
set_option maxRecDepth 20000 in
theorem gX3_mean_X3_lives : GoodIn wsX3_mean (wsV RX3 110 RX3 yX3_lives wsX3_lives) := goodIn_app (goodIn_of _ (by decide +kernel)) ggX3_mean_X3_lives
set_option maxRecDepth 20000 in
theorem ggX3_mean_X3_meanOf : GoodIn wsX3_mean wsX3_meanOf := goodIn_r _ [19, 20, 21, 22, 5, 23, 24, 25, 26, 27, 28, 29, 30, 31, 32, 33, 15, 34, 35, 36, 37, 38, 39, 40, 41, 42, 43, 44, 45, 46, 47, 48, 49, 50, 51, 52, 53, 54, 55, 56, 57, 58, 59, 60, 61, 62, 63, 64, 65, 66, 67, 68, 69, 70, 71, 72, 73, 74, 75, 76, 77, 78, 79, 80, 81, 82, 83, 84, 85, 86, 87, 88, 89, 90, 91, 92, 93, 94, 95, 96] (by decide +kernel) (by decide +kernel)
set_option maxRecDepth 20000 in
theorem gX3_mean_X3_meanOf : GoodIn wsX3_mean (wsV RX3 161 RX3 yX3_meanOf wsX3_meanOf) := goodIn_app (goodIn_of _ (by decide +kernel)) ggX3_mean_X3_meanOf
theorem dX3_mean_0 : decode cX3_mean 0 = .ok (.aload_n 0, 1) := by decide +kernel
theorem dX3_mean_1 : decode cX3_mean 1 = .ok (.iload_n 1, 1) := by decide +kernel
theorem dX3_mean_2 : decode cX3_mean 2 = .ok (.invokevirtual 117, 3) := by decide +kernel
theorem dX3_mean_5 : decode cX3_mean 5 = .ok (.ifCond .ne 6, 3) := by decide +kernel
theorem dX3_mean_8 : decode cX3_mean 8 = .ok (.bipush (-101), 2) := by decide +kernel
theorem dX3_mean_10 : decode cX3_mean 10 = .ok (.ireturn, 1) := by decide +kernel
theorem dX3_mean_11 : decode cX3_mean 11 = .ok (.iload_n 2, 1) := by decide +kernel
theorem dX3_mean_12 : decode cX3_mean 12 = .ok (.i2l, 1) := by decide +kernel
theorem dX3_mean_13 : decode cX3_mean 13 = .ok (.lconst 1, 1) := by decide +kernel
theorem dX3_mean_14 : decode cX3_mean 14 = .ok (.ldc2_w 82, 3) := by decide +kernel
theorem dX3_mean_17 : decode cX3_mean 17 = .ok (.invokestatic 49, 3) := by decide +kernel
theorem dX3_mean_20 : decode cX3_mean 20 = .ok (.ifCond .eq 13, 3) := by decide +kernel
theorem dX3_mean_23 : decode cX3_mean 23 = .ok (.iload_n 3, 1) := by decide +kernel
theorem dX3_mean_24 : decode cX3_mean 24 = .ok (.i2l, 1) := by decide +kernel
theorem dX3_mean_25 : decode cX3_mean 25 = .ok (.lconst 0, 1) := by decide +kernel
theorem dX3_mean_26 : decode cX3_mean 26 = .ok (.lconst 1, 1) := by decide +kernel
theorem dX3_mean_27 : decode cX3_mean 27 = .ok (.invokestatic 49, 3) := by decide +kernel
theorem dX3_mean_30 : decode cX3_mean 30 = .ok (.ifCond .ne 6, 3) := by decide +kernel
theorem dX3_mean_33 : decode cX3_mean 33 = .ok (.bipush (-102), 2) := by decide +kernel
theorem dX3_mean_35 : decode cX3_mean 35 = .ok (.ireturn, 1) := by decide +kernel
theorem dX3_mean_36 : decode cX3_mean 36 = .ok (.aload_n 0, 1) := by decide +kernel
theorem dX3_mean_37 : decode cX3_mean 37 = .ok (.iload_n 1, 1) := by decide +kernel
theorem dX3_mean_38 : decode cX3_mean 38 = .ok (.invokevirtual 110, 3) := by decide +kernel
theorem dX3_mean_41 : decode cX3_mean 41 = .ok (.ifCond .eq 13, 3) := by decide +kernel
theorem dX3_mean_44 : decode cX3_mean 44 = .ok (.aload_n 0, 1) := by decide +kernel
theorem dX3_mean_45 : decode cX3_mean 45 = .ok (.iload_n 1, 1) := by decide +kernel
theorem dX3_mean_46 : decode cX3_mean 46 = .ok (.iload_n 2, 1) := by decide +kernel
theorem dX3_mean_47 : decode cX3_mean 47 = .ok (.iload_n 3, 1) := by decide +kernel
theorem dX3_mean_48 : decode cX3_mean 48 = .ok (.invokevirtual 161, 3) := by decide +kernel
theorem dX3_mean_51 : decode cX3_mean 51 = .ok (.goto 5, 3) := by decide +kernel
theorem dX3_mean_54 : decode cX3_mean 54 = .ok (.bipush (-103), 2) := by decide +kernel
theorem dX3_mean_56 : decode cX3_mean 56 = .ok (.ireturn, 1) := by decide +kernel
set_option maxRecDepth 20000 in
theorem ggX3_roll_X3_isBeast : GoodIn wsX3_roll wsX3_isBeast := goodIn_r _ [7, 8, 9, 10, 6, 11, 12, 13, 14, 15, 16, 17, 18, 19, 20, 21, 22, 23, 24, 25, 26, 27, 28, 29, 30, 31, 32, 33, 34, 35] (by decide +kernel) (by decide +kernel)
set_option maxRecDepth 20000 in
theorem gX3_roll_X3_isBeast : GoodIn wsX3_roll (wsV RX3 129 RX3 yX3_isBeast wsX3_isBeast) := goodIn_app (goodIn_of _ (by decide +kernel)) ggX3_roll_X3_isBeast
set_option maxRecDepth 20000 in
theorem ggX3_roll_X3_in : GoodIn wsX3_roll wsX3_in := goodIn_r _ [11] (by decide +kernel) (by decide +kernel)
set_option maxRecDepth 20000 in
theorem gX3_roll_X3_in : GoodIn wsX3_roll (va_wsS RX3 49 yX3_in wsX3_in) := goodIn_app (goodIn_of _ (by decide +kernel)) ggX3_roll_X3_in
theorem dX3_roll_0 : decode cX3_roll 0 = .ok (.aload_n 0, 1) := by decide +kernel
theorem dX3_roll_1 : decode cX3_roll 1 = .ok (.iload_n 1, 1) := by decide +kernel
theorem dX3_roll_2 : decode cX3_roll 2 = .ok (.invokevirtual 129, 3) := by decide +kernel
theorem dX3_roll_5 : decode cX3_roll 5 = .ok (.ifCond .ne 6, 3) := by decide +kernel
theorem dX3_roll_8 : decode cX3_roll 8 = .ok (.bipush (-101), 2) := by decide +kernel
theorem dX3_roll_10 : decode cX3_roll 10 = .ok (.ireturn, 1) := by decide +kernel
theorem dX3_roll_11 : decode cX3_roll 11 = .ok (.iload_n 2, 1) := by decide +kernel
theorem dX3_roll_12 : decode cX3_roll 12 = .ok (.i2l, 1) := by decide +kernel
theorem dX3_roll_13 : decode cX3_roll 13 = .ok (.ldc2_w 164, 3) := by decide +kernel
theorem dX3_roll_16 : decode cX3_roll 16 = .ok (.lconst 1, 1) := by decide +kernel
theorem dX3_roll_17 : decode cX3_roll 17 = .ok (.invokestatic 49, 3) := by decide +kernel
theorem dX3_roll_20 : decode cX3_roll 20 = .ok (.ifCond .ne 6, 3) := by decide +kernel
theorem dX3_roll_23 : decode cX3_roll 23 = .ok (.bipush (-102), 2) := by decide +kernel
theorem dX3_roll_25 : decode cX3_roll 25 = .ok (.ireturn, 1) := by decide +kernel
theorem dX3_roll_26 : decode cX3_roll 26 = .ok (.aload_n 0, 1) := by decide +kernel
theorem dX3_roll_27 : decode cX3_roll 27 = .ok (.getfield 16, 3) := by decide +kernel
theorem dX3_roll_30 : decode cX3_roll 30 = .ok (.iconst 5, 1) := by decide +kernel
theorem dX3_roll_31 : decode cX3_roll 31 = .ok (.iload_n 1, 1) := by decide +kernel
theorem dX3_roll_32 : decode cX3_roll 32 = .ok (.imul, 1) := by decide +kernel
theorem dX3_roll_33 : decode cX3_roll 33 = .ok (.iconst 4, 1) := by decide +kernel
theorem dX3_roll_34 : decode cX3_roll 34 = .ok (.iadd, 1) := by decide +kernel
theorem dX3_roll_35 : decode cX3_roll 35 = .ok (.iaload, 1) := by decide +kernel
theorem dX3_roll_36 : decode cX3_roll 36 = .ok (.istore_n 3, 1) := by decide +kernel
theorem dX3_roll_37 : decode cX3_roll 37 = .ok (.aload_n 0, 1) := by decide +kernel
theorem dX3_roll_38 : decode cX3_roll 38 = .ok (.getfield 16, 3) := by decide +kernel
theorem dX3_roll_41 : decode cX3_roll 41 = .ok (.iconst 5, 1) := by decide +kernel
theorem dX3_roll_42 : decode cX3_roll 42 = .ok (.iload_n 1, 1) := by decide +kernel
theorem dX3_roll_43 : decode cX3_roll 43 = .ok (.imul, 1) := by decide +kernel
theorem dX3_roll_44 : decode cX3_roll 44 = .ok (.iconst 4, 1) := by decide +kernel
theorem dX3_roll_45 : decode cX3_roll 45 = .ok (.iadd, 1) := by decide +kernel
theorem dX3_roll_46 : decode cX3_roll 46 = .ok (.iload_n 2, 1) := by decide +kernel
theorem dX3_roll_47 : decode cX3_roll 47 = .ok (.iastore, 1) := by decide +kernel
theorem dX3_roll_48 : decode cX3_roll 48 = .ok (.iload_n 3, 1) := by decide +kernel
theorem dX3_roll_49 : decode cX3_roll 49 = .ok (.ireturn, 1) := by decide +kernel
set_option maxRecDepth 20000 in
theorem ggX3_isRolledBy_X3_heldBits : GoodIn wsX3_isRolledBy wsX3_heldBits := goodIn_r _ [8, 2, 3, 9, 10, 11, 12, 7, 13, 34, 35, 36, 37, 38, 39, 40, 41, 42, 43, 44, 45, 46, 47, 48, 49, 50, 51, 52, 53, 54, 55, 56, 57] (by decide +kernel) (by decide +kernel)
set_option maxRecDepth 20000 in
theorem gX3_isRolledBy_X3_heldBits : GoodIn wsX3_isRolledBy (wsV RX3 107 RX3 yX3_heldBits wsX3_heldBits) := goodIn_app (goodIn_of _ (by decide +kernel)) ggX3_isRolledBy_X3_heldBits
set_option maxRecDepth 20000 in
theorem ggX3_isRolledBy_X3_takenOf : GoodIn wsX3_isRolledBy wsX3_takenOf := goodIn_r _ [17, 18, 19, 20, 7, 21, 22, 23, 24, 25, 26, 27, 28, 29, 30, 31, 32, 2, 3, 33, 34, 35, 36, 37, 38, 39, 40, 41, 42, 43, 44, 45, 46, 47, 48, 49, 50, 51, 52, 53, 54, 55, 56, 57] (by decide +kernel) (by decide +kernel)
set_option maxRecDepth 20000 in
theorem gX3_isRolledBy_X3_takenOf : GoodIn wsX3_isRolledBy (wsV RX3 97 RX3 yX3_takenOf wsX3_takenOf) := goodIn_app (goodIn_of _ (by decide +kernel)) ggX3_isRolledBy_X3_takenOf
theorem dX3_isRolledBy_0 : decode cX3_isRolledBy 0 = .ok (.aload_n 0, 1) := by decide +kernel
theorem dX3_isRolledBy_1 : decode cX3_isRolledBy 1 = .ok (.iload_n 1, 1) := by decide +kernel
theorem dX3_isRolledBy_2 : decode cX3_isRolledBy 2 = .ok (.aload_n 0, 1) := by decide +kernel
theorem dX3_isRolledBy_3 : decode cX3_isRolledBy 3 = .ok (.iload_n 1, 1) := by decide +kernel
theorem dX3_isRolledBy_4 : decode cX3_isRolledBy 4 = .ok (.aload_n 0, 1) := by decide +kernel
theorem dX3_isRolledBy_5 : decode cX3_isRolledBy 5 = .ok (.getfield 104, 3) := by decide +kernel
theorem dX3_isRolledBy_8 : decode cX3_isRolledBy 8 = .ok (.invokevirtual 107, 3) := by decide +kernel
theorem dX3_isRolledBy_11 : decode cX3_isRolledBy 11 = .ok (.invokevirtual 97, 3) := by decide +kernel
theorem dX3_isRolledBy_14 : decode cX3_isRolledBy 14 = .ok (.istore_n 2, 1) := by decide +kernel
theorem dX3_isRolledBy_15 : decode cX3_isRolledBy 15 = .ok (.iconst 1, 1) := by decide +kernel
theorem dX3_isRolledBy_16 : decode cX3_isRolledBy 16 = .ok (.istore_n 3, 1) := by decide +kernel
theorem dX3_isRolledBy_17 : decode cX3_isRolledBy 17 = .ok (.iconst 0, 1) := by decide +kernel
theorem dX3_isRolledBy_18 : decode cX3_isRolledBy 18 = .ok (.istore 4, 2) := by decide +kernel
theorem dX3_isRolledBy_20 : decode cX3_isRolledBy 20 = .ok (.iload 4, 2) := by decide +kernel
theorem dX3_isRolledBy_22 : decode cX3_isRolledBy 22 = .ok (.aload_n 0, 1) := by decide +kernel
theorem dX3_isRolledBy_23 : decode cX3_isRolledBy 23 = .ok (.getfield 79, 3) := by decide +kernel
theorem dX3_isRolledBy_26 : decode cX3_isRolledBy 26 = .ok (.if_icmp .ge 54, 3) := by decide +kernel
theorem dX3_isRolledBy_29 : decode cX3_isRolledBy 29 = .ok (.iload_n 3, 1) := by decide +kernel
theorem dX3_isRolledBy_30 : decode cX3_isRolledBy 30 = .ok (.ifCond .eq 42, 3) := by decide +kernel
theorem dX3_isRolledBy_33 : decode cX3_isRolledBy 33 = .ok (.aload_n 0, 1) := by decide +kernel
theorem dX3_isRolledBy_34 : decode cX3_isRolledBy 34 = .ok (.getfield 16, 3) := by decide +kernel
theorem dX3_isRolledBy_37 : decode cX3_isRolledBy 37 = .ok (.iconst 5, 1) := by decide +kernel
theorem dX3_isRolledBy_38 : decode cX3_isRolledBy 38 = .ok (.iload 4, 2) := by decide +kernel
theorem dX3_isRolledBy_40 : decode cX3_isRolledBy 40 = .ok (.imul, 1) := by decide +kernel
theorem dX3_isRolledBy_41 : decode cX3_isRolledBy 41 = .ok (.iconst 4, 1) := by decide +kernel
theorem dX3_isRolledBy_42 : decode cX3_isRolledBy 42 = .ok (.iadd, 1) := by decide +kernel
theorem dX3_isRolledBy_43 : decode cX3_isRolledBy 43 = .ok (.iaload, 1) := by decide +kernel
theorem dX3_isRolledBy_44 : decode cX3_isRolledBy 44 = .ok (.iconst (-1), 1) := by decide +kernel
theorem dX3_isRolledBy_45 : decode cX3_isRolledBy 45 = .ok (.if_icmp .eq 23, 3) := by decide +kernel
theorem dX3_isRolledBy_48 : decode cX3_isRolledBy 48 = .ok (.aload_n 0, 1) := by decide +kernel
theorem dX3_isRolledBy_49 : decode cX3_isRolledBy 49 = .ok (.getfield 16, 3) := by decide +kernel
theorem dX3_isRolledBy_52 : decode cX3_isRolledBy 52 = .ok (.iconst 5, 1) := by decide +kernel
theorem dX3_isRolledBy_53 : decode cX3_isRolledBy 53 = .ok (.iload 4, 2) := by decide +kernel
theorem dX3_isRolledBy_55 : decode cX3_isRolledBy 55 = .ok (.imul, 1) := by decide +kernel
theorem dX3_isRolledBy_56 : decode cX3_isRolledBy 56 = .ok (.iconst 4, 1) := by decide +kernel
theorem dX3_isRolledBy_57 : decode cX3_isRolledBy 57 = .ok (.iadd, 1) := by decide +kernel
theorem dX3_isRolledBy_58 : decode cX3_isRolledBy 58 = .ok (.iaload, 1) := by decide +kernel
theorem dX3_isRolledBy_59 : decode cX3_isRolledBy 59 = .ok (.iload_n 2, 1) := by decide +kernel
theorem dX3_isRolledBy_60 : decode cX3_isRolledBy 60 = .ok (.iload 4, 2) := by decide +kernel
theorem dX3_isRolledBy_62 : decode cX3_isRolledBy 62 = .ok (.ishr, 1) := by decide +kernel
theorem dX3_isRolledBy_63 : decode cX3_isRolledBy 63 = .ok (.iconst 1, 1) := by decide +kernel
theorem dX3_isRolledBy_64 : decode cX3_isRolledBy 64 = .ok (.iand, 1) := by decide +kernel
theorem dX3_isRolledBy_65 : decode cX3_isRolledBy 65 = .ok (.if_icmp .ne 7, 3) := by decide +kernel
theorem dX3_isRolledBy_68 : decode cX3_isRolledBy 68 = .ok (.iconst 1, 1) := by decide +kernel
theorem dX3_isRolledBy_69 : decode cX3_isRolledBy 69 = .ok (.goto 4, 3) := by decide +kernel
theorem dX3_isRolledBy_72 : decode cX3_isRolledBy 72 = .ok (.iconst 0, 1) := by decide +kernel
theorem dX3_isRolledBy_73 : decode cX3_isRolledBy 73 = .ok (.istore_n 3, 1) := by decide +kernel
theorem dX3_isRolledBy_74 : decode cX3_isRolledBy 74 = .ok (.iinc 4 1, 3) := by decide +kernel
theorem dX3_isRolledBy_77 : decode cX3_isRolledBy 77 = .ok (.goto (-57), 3) := by decide +kernel
theorem dX3_isRolledBy_80 : decode cX3_isRolledBy 80 = .ok (.iload_n 3, 1) := by decide +kernel
theorem dX3_isRolledBy_81 : decode cX3_isRolledBy 81 = .ok (.ireturn, 1) := by decide +kernel
set_option maxRecDepth 20000 in
theorem ggX3_whose_X3_isBeast : GoodIn wsX3_whose wsX3_isBeast := goodIn_r _ [7, 8, 9, 10, 6, 11, 58, 59, 60, 61, 62, 63, 64, 65, 66, 67, 68, 69, 70, 71, 72, 73, 74, 75, 76, 77, 78, 79, 80, 81] (by decide +kernel) (by decide +kernel)
set_option maxRecDepth 20000 in
theorem gX3_whose_X3_isBeast : GoodIn wsX3_whose (wsV RX3 129 RX3 yX3_isBeast wsX3_isBeast) := goodIn_app (goodIn_of _ (by decide +kernel)) ggX3_whose_X3_isBeast
set_option maxRecDepth 20000 in
theorem ggX3_whose_X3_isHolder : GoodIn wsX3_whose wsX3_isHolder := goodIn_r _ [15, 2, 9, 10, 6, 11, 58, 59, 60, 61, 62, 63, 64, 65, 66, 67, 68, 69, 70, 71, 72, 73, 74, 75, 76, 77, 78, 79, 80, 81] (by decide +kernel) (by decide +kernel)
set_option maxRecDepth 20000 in
theorem gX3_whose_X3_isHolder : GoodIn wsX3_whose (wsV RX3 117 RX3 yX3_isHolder wsX3_isHolder) := goodIn_app (goodIn_of _ (by decide +kernel)) ggX3_whose_X3_isHolder
set_option maxRecDepth 20000 in
theorem ggX3_whose_X3_lives : GoodIn wsX3_whose wsX3_lives := goodIn_r _ [19, 20, 58, 59, 60, 61, 62, 63, 64, 65, 66, 67, 68, 69, 70, 71, 72, 73, 74, 75, 76, 77, 78, 79, 80, 81] (by decide +kernel) (by decide +kernel)
set_option maxRecDepth 20000 in
theorem gX3_whose_X3_lives : GoodIn wsX3_whose (wsV RX3 110 RX3 yX3_lives wsX3_lives) := goodIn_app (goodIn_of _ (by decide +kernel)) ggX3_whose_X3_lives
set_option maxRecDepth 20000 in
theorem ggX3_whose_X3_lay : GoodIn wsX3_whose wsX3_lay := goodIn_r _ [24, 1, 58, 59, 60, 61, 62, 63, 64, 65, 66, 67, 68, 69, 70, 71, 72, 73, 74, 75, 76, 77, 78, 79, 80, 81] (by decide +kernel) (by decide +kernel)
set_option maxRecDepth 20000 in
theorem gX3_whose_X3_lay : GoodIn wsX3_whose (wsV RX3 125 RX3 yX3_lay wsX3_lay) := goodIn_app (goodIn_of _ (by decide +kernel)) ggX3_whose_X3_lay
set_option maxRecDepth 20000 in
theorem ggX3_whose_X3_isRolledBy : GoodIn wsX3_whose wsX3_isRolledBy := goodIn_r _ [28, 29, 8, 1, 30, 31, 32, 6, 33, 34, 35, 36, 37, 38, 39, 40, 41, 42, 43, 44, 45, 46, 20, 47, 48, 49, 50, 51, 52, 53, 54, 55, 56, 57, 58, 59, 60, 61, 62, 63, 64, 65, 66, 67, 68, 69, 70, 71, 72, 73, 74, 75, 76, 77, 78, 79, 80, 81] (by decide +kernel) (by decide +kernel)
set_option maxRecDepth 20000 in
theorem gX3_whose_X3_isRolledBy : GoodIn wsX3_whose (wsV RX3 166 RX3 yX3_isRolledBy wsX3_isRolledBy) := goodIn_app (goodIn_of _ (by decide +kernel)) ggX3_whose_X3_isRolledBy
theorem dX3_whose_0 : decode cX3_whose 0 = .ok (.aload_n 0, 1) := by decide +kernel
theorem dX3_whose_1 : decode cX3_whose 1 = .ok (.iload_n 1, 1) := by decide +kernel
theorem dX3_whose_2 : decode cX3_whose 2 = .ok (.invokevirtual 129, 3) := by decide +kernel
theorem dX3_whose_5 : decode cX3_whose 5 = .ok (.ifCond .eq 11, 3) := by decide +kernel
theorem dX3_whose_8 : decode cX3_whose 8 = .ok (.aload_n 0, 1) := by decide +kernel
theorem dX3_whose_9 : decode cX3_whose 9 = .ok (.iload_n 2, 1) := by decide +kernel
theorem dX3_whose_10 : decode cX3_whose 10 = .ok (.invokevirtual 117, 3) := by decide +kernel
theorem dX3_whose_13 : decode cX3_whose 13 = .ok (.ifCond .ne 6, 3) := by decide +kernel
theorem dX3_whose_16 : decode cX3_whose 16 = .ok (.bipush (-101), 2) := by decide +kernel
theorem dX3_whose_18 : decode cX3_whose 18 = .ok (.ireturn, 1) := by decide +kernel
theorem dX3_whose_19 : decode cX3_whose 19 = .ok (.aload_n 0, 1) := by decide +kernel
theorem dX3_whose_20 : decode cX3_whose 20 = .ok (.iload_n 2, 1) := by decide +kernel
theorem dX3_whose_21 : decode cX3_whose 21 = .ok (.invokevirtual 110, 3) := by decide +kernel
theorem dX3_whose_24 : decode cX3_whose 24 = .ok (.ifCond .ne 6, 3) := by decide +kernel
theorem dX3_whose_27 : decode cX3_whose 27 = .ok (.bipush (-103), 2) := by decide +kernel
theorem dX3_whose_29 : decode cX3_whose 29 = .ok (.ireturn, 1) := by decide +kernel
theorem dX3_whose_30 : decode cX3_whose 30 = .ok (.aload_n 0, 1) := by decide +kernel
theorem dX3_whose_31 : decode cX3_whose 31 = .ok (.getfield 16, 3) := by decide +kernel
theorem dX3_whose_34 : decode cX3_whose 34 = .ok (.iconst 5, 1) := by decide +kernel
theorem dX3_whose_35 : decode cX3_whose 35 = .ok (.iload_n 1, 1) := by decide +kernel
theorem dX3_whose_36 : decode cX3_whose 36 = .ok (.imul, 1) := by decide +kernel
theorem dX3_whose_37 : decode cX3_whose 37 = .ok (.iconst 1, 1) := by decide +kernel
theorem dX3_whose_38 : decode cX3_whose 38 = .ok (.iadd, 1) := by decide +kernel
theorem dX3_whose_39 : decode cX3_whose 39 = .ok (.iaload, 1) := by decide +kernel
theorem dX3_whose_40 : decode cX3_whose 40 = .ok (.istore_n 3, 1) := by decide +kernel
theorem dX3_whose_41 : decode cX3_whose 41 = .ok (.aload_n 0, 1) := by decide +kernel
theorem dX3_whose_42 : decode cX3_whose 42 = .ok (.getfield 16, 3) := by decide +kernel
theorem dX3_whose_45 : decode cX3_whose 45 = .ok (.iconst 5, 1) := by decide +kernel
theorem dX3_whose_46 : decode cX3_whose 46 = .ok (.iload_n 1, 1) := by decide +kernel
theorem dX3_whose_47 : decode cX3_whose 47 = .ok (.imul, 1) := by decide +kernel
theorem dX3_whose_48 : decode cX3_whose 48 = .ok (.iconst 2, 1) := by decide +kernel
theorem dX3_whose_49 : decode cX3_whose 49 = .ok (.iadd, 1) := by decide +kernel
theorem dX3_whose_50 : decode cX3_whose 50 = .ok (.iaload, 1) := by decide +kernel
theorem dX3_whose_51 : decode cX3_whose 51 = .ok (.istore 4, 2) := by decide +kernel
theorem dX3_whose_53 : decode cX3_whose 53 = .ok (.aload_n 0, 1) := by decide +kernel
theorem dX3_whose_54 : decode cX3_whose 54 = .ok (.getfield 16, 3) := by decide +kernel
theorem dX3_whose_57 : decode cX3_whose 57 = .ok (.iconst 5, 1) := by decide +kernel
theorem dX3_whose_58 : decode cX3_whose 58 = .ok (.iload_n 1, 1) := by decide +kernel
theorem dX3_whose_59 : decode cX3_whose 59 = .ok (.imul, 1) := by decide +kernel
theorem dX3_whose_60 : decode cX3_whose 60 = .ok (.iconst 3, 1) := by decide +kernel
theorem dX3_whose_61 : decode cX3_whose 61 = .ok (.iadd, 1) := by decide +kernel
theorem dX3_whose_62 : decode cX3_whose 62 = .ok (.iaload, 1) := by decide +kernel
theorem dX3_whose_63 : decode cX3_whose 63 = .ok (.istore 5, 2) := by decide +kernel
theorem dX3_whose_65 : decode cX3_whose 65 = .ok (.iconst 0, 1) := by decide +kernel
theorem dX3_whose_66 : decode cX3_whose 66 = .ok (.istore 6, 2) := by decide +kernel
theorem dX3_whose_68 : decode cX3_whose 68 = .ok (.iconst 0, 1) := by decide +kernel
theorem dX3_whose_69 : decode cX3_whose 69 = .ok (.istore 7, 2) := by decide +kernel
theorem dX3_whose_71 : decode cX3_whose 71 = .ok (.iload 7, 2) := by decide +kernel
theorem dX3_whose_73 : decode cX3_whose 73 = .ok (.aload_n 0, 1) := by decide +kernel
theorem dX3_whose_74 : decode cX3_whose 74 = .ok (.getfield 76, 3) := by decide +kernel
theorem dX3_whose_77 : decode cX3_whose 77 = .ok (.if_icmp .ge 48, 3) := by decide +kernel
theorem dX3_whose_80 : decode cX3_whose 80 = .ok (.aload_n 0, 1) := by decide +kernel
theorem dX3_whose_81 : decode cX3_whose 81 = .ok (.iload_n 1, 1) := by decide +kernel
theorem dX3_whose_82 : decode cX3_whose 82 = .ok (.iload 7, 2) := by decide +kernel
theorem dX3_whose_84 : decode cX3_whose 84 = .ok (.iconst (-1), 1) := by decide +kernel
theorem dX3_whose_85 : decode cX3_whose 85 = .ok (.iconst (-1), 1) := by decide +kernel
theorem dX3_whose_86 : decode cX3_whose 86 = .ok (.invokevirtual 125, 3) := by decide +kernel
theorem dX3_whose_89 : decode cX3_whose 89 = .ok (.iload 6, 2) := by decide +kernel
theorem dX3_whose_91 : decode cX3_whose 91 = .ok (.aload_n 0, 1) := by decide +kernel
theorem dX3_whose_92 : decode cX3_whose 92 = .ok (.iload 7, 2) := by decide +kernel
theorem dX3_whose_94 : decode cX3_whose 94 = .ok (.invokevirtual 110, 3) := by decide +kernel
theorem dX3_whose_97 : decode cX3_whose 97 = .ok (.ifCond .eq 18, 3) := by decide +kernel
theorem dX3_whose_100 : decode cX3_whose 100 = .ok (.aload_n 0, 1) := by decide +kernel
theorem dX3_whose_101 : decode cX3_whose 101 = .ok (.iload_n 2, 1) := by decide +kernel
theorem dX3_whose_102 : decode cX3_whose 102 = .ok (.invokevirtual 166, 3) := by decide +kernel
theorem dX3_whose_105 : decode cX3_whose 105 = .ok (.ifCond .eq 10, 3) := by decide +kernel
theorem dX3_whose_108 : decode cX3_whose 108 = .ok (.iconst 1, 1) := by decide +kernel
theorem dX3_whose_109 : decode cX3_whose 109 = .ok (.iload 7, 2) := by decide +kernel
theorem dX3_whose_111 : decode cX3_whose 111 = .ok (.ishl, 1) := by decide +kernel
theorem dX3_whose_112 : decode cX3_whose 112 = .ok (.goto 4, 3) := by decide +kernel
theorem dX3_whose_115 : decode cX3_whose 115 = .ok (.iconst 0, 1) := by decide +kernel
theorem dX3_whose_116 : decode cX3_whose 116 = .ok (.ior, 1) := by decide +kernel
theorem dX3_whose_117 : decode cX3_whose 117 = .ok (.istore 6, 2) := by decide +kernel
theorem dX3_whose_119 : decode cX3_whose 119 = .ok (.iinc 7 1, 3) := by decide +kernel
theorem dX3_whose_122 : decode cX3_whose 122 = .ok (.goto (-51), 3) := by decide +kernel
theorem dX3_whose_125 : decode cX3_whose 125 = .ok (.aload_n 0, 1) := by decide +kernel
theorem dX3_whose_126 : decode cX3_whose 126 = .ok (.iload_n 1, 1) := by decide +kernel
theorem dX3_whose_127 : decode cX3_whose 127 = .ok (.iload_n 3, 1) := by decide +kernel
theorem dX3_whose_128 : decode cX3_whose 128 = .ok (.iload 4, 2) := by decide +kernel
theorem dX3_whose_130 : decode cX3_whose 130 = .ok (.iload 5, 2) := by decide +kernel
theorem dX3_whose_132 : decode cX3_whose 132 = .ok (.invokevirtual 125, 3) := by decide +kernel
theorem dX3_whose_135 : decode cX3_whose 135 = .ok (.iload 6, 2) := by decide +kernel
theorem dX3_whose_137 : decode cX3_whose 137 = .ok (.ireturn, 1) := by decide +kernel
theorem dX3_draw_0 : decode cX3_draw 0 = .ok (.aload_n 0, 1) := by decide +kernel
theorem dX3_draw_1 : decode cX3_draw 1 = .ok (.ldc2_w 169, 3) := by decide +kernel
theorem dX3_draw_4 : decode cX3_draw 4 = .ok (.aload_n 0, 1) := by decide +kernel
theorem dX3_draw_5 : decode cX3_draw 5 = .ok (.getfield 171, 3) := by decide +kernel
theorem dX3_draw_8 : decode cX3_draw 8 = .ok (.i2l, 1) := by decide +kernel
theorem dX3_draw_9 : decode cX3_draw 9 = .ok (.lmul, 1) := by decide +kernel
theorem dX3_draw_10 : decode cX3_draw 10 = .ok (.ldc2_w 174, 3) := by decide +kernel
theorem dX3_draw_13 : decode cX3_draw 13 = .ok (.ladd, 1) := by decide +kernel
theorem dX3_draw_14 : decode cX3_draw 14 = .ok (.ldc2_w 176, 3) := by decide +kernel
theorem dX3_draw_17 : decode cX3_draw 17 = .ok (.land, 1) := by decide +kernel
theorem dX3_draw_18 : decode cX3_draw 18 = .ok (.l2i, 1) := by decide +kernel
theorem dX3_draw_19 : decode cX3_draw 19 = .ok (.putfield 171, 3) := by decide +kernel
theorem dX3_draw_22 : decode cX3_draw 22 = .ok (.aload_n 0, 1) := by decide +kernel
theorem dX3_draw_23 : decode cX3_draw 23 = .ok (.getfield 171, 3) := by decide +kernel
theorem dX3_draw_26 : decode cX3_draw 26 = .ok (.ldc 178, 2) := by decide +kernel
theorem dX3_draw_28 : decode cX3_draw 28 = .ok (.idiv, 1) := by decide +kernel
theorem dX3_draw_29 : decode cX3_draw 29 = .ok (.iload_n 1, 1) := by decide +kernel
theorem dX3_draw_30 : decode cX3_draw 30 = .ok (.irem, 1) := by decide +kernel
theorem dX3_draw_31 : decode cX3_draw 31 = .ok (.ireturn, 1) := by decide +kernel
theorem dX3_copy_0 : decode cX3_copy 0 = .ok (.iconst 0, 1) := by decide +kernel
theorem dX3_copy_1 : decode cX3_copy 1 = .ok (.istore_n 2, 1) := by decide +kernel
theorem dX3_copy_2 : decode cX3_copy 2 = .ok (.iload_n 2, 1) := by decide +kernel
theorem dX3_copy_3 : decode cX3_copy 3 = .ok (.aload_n 0, 1) := by decide +kernel
theorem dX3_copy_4 : decode cX3_copy 4 = .ok (.arraylength, 1) := by decide +kernel
theorem dX3_copy_5 : decode cX3_copy 5 = .ok (.if_icmp .ge 15, 3) := by decide +kernel
theorem dX3_copy_8 : decode cX3_copy 8 = .ok (.aload_n 1, 1) := by decide +kernel
theorem dX3_copy_9 : decode cX3_copy 9 = .ok (.iload_n 2, 1) := by decide +kernel
theorem dX3_copy_10 : decode cX3_copy 10 = .ok (.aload_n 0, 1) := by decide +kernel
theorem dX3_copy_11 : decode cX3_copy 11 = .ok (.iload_n 2, 1) := by decide +kernel
theorem dX3_copy_12 : decode cX3_copy 12 = .ok (.iaload, 1) := by decide +kernel
theorem dX3_copy_13 : decode cX3_copy 13 = .ok (.iastore, 1) := by decide +kernel
theorem dX3_copy_14 : decode cX3_copy 14 = .ok (.iinc 2 1, 3) := by decide +kernel
theorem dX3_copy_17 : decode cX3_copy 17 = .ok (.goto (-15), 3) := by decide +kernel
theorem dX3_copy_20 : decode cX3_copy 20 = .ok (.return_, 1) := by decide +kernel
theorem dX3_livingMany_0 : decode cX3_livingMany 0 = .ok (.iconst 0, 1) := by decide +kernel
theorem dX3_livingMany_1 : decode cX3_livingMany 1 = .ok (.istore_n 1, 1) := by decide +kernel
theorem dX3_livingMany_2 : decode cX3_livingMany 2 = .ok (.iconst 0, 1) := by decide +kernel
theorem dX3_livingMany_3 : decode cX3_livingMany 3 = .ok (.istore_n 2, 1) := by decide +kernel
theorem dX3_livingMany_4 : decode cX3_livingMany 4 = .ok (.iload_n 2, 1) := by decide +kernel
theorem dX3_livingMany_5 : decode cX3_livingMany 5 = .ok (.aload_n 0, 1) := by decide +kernel
theorem dX3_livingMany_6 : decode cX3_livingMany 6 = .ok (.getfield 76, 3) := by decide +kernel
theorem dX3_livingMany_9 : decode cX3_livingMany 9 = .ok (.if_icmp .ge 22, 3) := by decide +kernel
theorem dX3_livingMany_12 : decode cX3_livingMany 12 = .ok (.iload_n 1, 1) := by decide +kernel
theorem dX3_livingMany_13 : decode cX3_livingMany 13 = .ok (.aload_n 0, 1) := by decide +kernel
theorem dX3_livingMany_14 : decode cX3_livingMany 14 = .ok (.getfield 13, 3) := by decide +kernel
theorem dX3_livingMany_17 : decode cX3_livingMany 17 = .ok (.iconst 4, 1) := by decide +kernel
theorem dX3_livingMany_18 : decode cX3_livingMany 18 = .ok (.iload_n 2, 1) := by decide +kernel
theorem dX3_livingMany_19 : decode cX3_livingMany 19 = .ok (.imul, 1) := by decide +kernel
theorem dX3_livingMany_20 : decode cX3_livingMany 20 = .ok (.iconst 2, 1) := by decide +kernel
theorem dX3_livingMany_21 : decode cX3_livingMany 21 = .ok (.iadd, 1) := by decide +kernel
theorem dX3_livingMany_22 : decode cX3_livingMany 22 = .ok (.iaload, 1) := by decide +kernel
theorem dX3_livingMany_23 : decode cX3_livingMany 23 = .ok (.iadd, 1) := by decide +kernel
theorem dX3_livingMany_24 : decode cX3_livingMany 24 = .ok (.istore_n 1, 1) := by decide +kernel
theorem dX3_livingMany_25 : decode cX3_livingMany 25 = .ok (.iinc 2 1, 3) := by decide +kernel
theorem dX3_livingMany_28 : decode cX3_livingMany 28 = .ok (.goto (-24), 3) := by decide +kernel
theorem dX3_livingMany_31 : decode cX3_livingMany 31 = .ok (.iload_n 1, 1) := by decide +kernel
theorem dX3_livingMany_32 : decode cX3_livingMany 32 = .ok (.ireturn, 1) := by decide +kernel
set_option maxRecDepth 20000 in
theorem ggX3_manors_X3_in : GoodIn wsX3_manors wsX3_in := goodIn_r _ [14] (by decide +kernel) (by decide +kernel)
set_option maxRecDepth 20000 in
theorem gX3_manors_X3_in : GoodIn wsX3_manors (va_wsS RX3 49 yX3_in wsX3_in) := goodIn_app (goodIn_of _ (by decide +kernel)) ggX3_manors_X3_in
set_option maxRecDepth 20000 in
theorem ggX3_manors_X3_copy : GoodIn wsX3_manors wsX3_copy := goodIn_r _ [17] (by decide +kernel) (by decide +kernel)
set_option maxRecDepth 20000 in
theorem gX3_manors_X3_copy : GoodIn wsX3_manors (va_wsS RX3 183 yX3_copy wsX3_copy) := goodIn_app (goodIn_of _ (by decide +kernel)) ggX3_manors_X3_copy
set_option maxRecDepth 20000 in
theorem ggX3_manors_X3_lives : GoodIn wsX3_manors wsX3_lives := goodIn_r _ [21, 4, 82, 83, 84, 85, 86, 87, 88, 89, 90, 91, 92, 93, 94, 95, 96, 97, 98, 99, 100, 101, 102, 103, 104, 105] (by decide +kernel) (by decide +kernel)
set_option maxRecDepth 20000 in
theorem gX3_manors_X3_lives : GoodIn wsX3_manors (wsV RX3 110 RX3 yX3_lives wsX3_lives) := goodIn_app (goodIn_of _ (by decide +kernel)) ggX3_manors_X3_lives
set_option maxRecDepth 20000 in
theorem ggX3_manors_X3_draw : GoodIn wsX3_manors wsX3_draw := goodIn_r _ [25, 26, 9, 27, 28, 29, 82, 83, 84, 85, 86, 87, 88, 89, 90, 91, 92, 93, 94, 95, 96, 97, 98, 99, 100, 101, 102, 103, 104, 105] (by decide +kernel) (by decide +kernel)
set_option maxRecDepth 20000 in
theorem gX3_manors_X3_draw : GoodIn wsX3_manors (wsV RX3 187 RX3 yX3_draw wsX3_draw) := goodIn_app (goodIn_of _ (by decide +kernel)) ggX3_manors_X3_draw
set_option maxRecDepth 20000 in
theorem ggX3_manors_X3_dies : GoodIn wsX3_manors wsX3_dies := goodIn_r _ [33, 8, 4, 10, 6, 34, 35, 36, 13, 37, 38, 39, 40, 41, 42, 43, 44, 45, 46, 47, 48, 49, 50, 51, 52, 53, 54, 55, 56, 57, 58, 59, 60, 61, 62, 63, 64, 65, 66, 67, 68, 69, 18, 19, 20, 21, 82, 83, 84, 85, 86, 87, 88, 89, 90, 91, 92, 93, 94, 95, 96, 97, 98, 99, 100, 101, 102, 103, 104, 105] (by decide +kernel) (by decide +kernel)
set_option maxRecDepth 20000 in
theorem gX3_manors_X3_dies : GoodIn wsX3_manors (wsV RX3 139 RX3 yX3_dies wsX3_dies) := goodIn_app (goodIn_of _ (by decide +kernel)) ggX3_manors_X3_dies
set_option maxRecDepth 20000 in
theorem ggX3_manors_X3_mayGive : GoodIn wsX3_manors wsX3_mayGive := goodIn_r _ [73, 6, 18, 19, 20, 13, 21, 4, 82, 83, 84, 85, 86, 87, 88, 89, 90, 91, 92, 93, 94, 95, 96, 97, 98, 99, 100, 101, 102, 103, 104, 105] (by decide +kernel) (by decide +kernel)
set_option maxRecDepth 20000 in
theorem gX3_manors_X3_mayGive : GoodIn wsX3_manors (wsV RX3 132 RX3 yX3_mayGive wsX3_mayGive) := goodIn_app (goodIn_of _ (by decide +kernel)) ggX3_manors_X3_mayGive
set_option maxRecDepth 20000 in
theorem ggX3_manors_X3_gives : GoodIn wsX3_manors wsX3_gives := goodIn_r _ [77, 6, 8, 66, 67, 68, 13, 69, 82, 83, 84, 85, 86, 87, 88, 89, 90, 91, 92, 93, 94, 95, 96, 97, 98, 99, 100, 101, 102, 103, 104, 105] (by decide +kernel) (by decide +kernel)
set_option maxRecDepth 20000 in
theorem gX3_manors_X3_gives : GoodIn wsX3_manors (wsV RX3 135 RX3 yX3_gives wsX3_gives) := goodIn_app (goodIn_of _ (by decide +kernel)) ggX3_manors_X3_gives
set_option maxRecDepth 20000 in
theorem ggX3_manors_X3_livingMany : GoodIn wsX3_manors wsX3_livingMany := goodIn_r _ [81, 3, 4, 82, 83, 84, 85, 86, 87, 88, 89, 90, 91, 92, 93, 94, 95, 96, 97, 98, 99, 100, 101, 102, 103, 104, 105] (by decide +kernel) (by decide +kernel)
set_option maxRecDepth 20000 in
theorem gX3_manors_X3_livingMany : GoodIn wsX3_manors (wsV RX3 190 RX3 yX3_livingMany wsX3_livingMany) := goodIn_app (goodIn_of _ (by decide +kernel)) ggX3_manors_X3_livingMany
theorem dX3_manors_0 : decode cX3_manors 0 = .ok (.iload_n 1, 1) := by decide +kernel
theorem dX3_manors_1 : decode cX3_manors 1 = .ok (.i2l, 1) := by decide +kernel
theorem dX3_manors_2 : decode cX3_manors 2 = .ok (.lconst 1, 1) := by decide +kernel
theorem dX3_manors_3 : decode cX3_manors 3 = .ok (.ldc2_w 179, 3) := by decide +kernel
theorem dX3_manors_6 : decode cX3_manors 6 = .ok (.invokestatic 49, 3) := by decide +kernel
theorem dX3_manors_9 : decode cX3_manors 9 = .ok (.ifCond .eq 19, 3) := by decide +kernel
theorem dX3_manors_12 : decode cX3_manors 12 = .ok (.iload_n 2, 1) := by decide +kernel
theorem dX3_manors_13 : decode cX3_manors 13 = .ok (.ifCond .lt 15, 3) := by decide +kernel
theorem dX3_manors_16 : decode cX3_manors 16 = .ok (.iload_n 3, 1) := by decide +kernel
theorem dX3_manors_17 : decode cX3_manors 17 = .ok (.i2l, 1) := by decide +kernel
theorem dX3_manors_18 : decode cX3_manors 18 = .ok (.lconst 0, 1) := by decide +kernel
theorem dX3_manors_19 : decode cX3_manors 19 = .ok (.ldc2_w 181, 3) := by decide +kernel
theorem dX3_manors_22 : decode cX3_manors 22 = .ok (.invokestatic 49, 3) := by decide +kernel
theorem dX3_manors_25 : decode cX3_manors 25 = .ok (.ifCond .ne 6, 3) := by decide +kernel
theorem dX3_manors_28 : decode cX3_manors 28 = .ok (.bipush (-102), 2) := by decide +kernel
theorem dX3_manors_30 : decode cX3_manors 30 = .ok (.ireturn, 1) := by decide +kernel
theorem dX3_manors_31 : decode cX3_manors 31 = .ok (.aload_n 0, 1) := by decide +kernel
theorem dX3_manors_32 : decode cX3_manors 32 = .ok (.getfield 76, 3) := by decide +kernel
theorem dX3_manors_35 : decode cX3_manors 35 = .ok (.ifCond .ne 6, 3) := by decide +kernel
theorem dX3_manors_38 : decode cX3_manors 38 = .ok (.bipush (-103), 2) := by decide +kernel
theorem dX3_manors_40 : decode cX3_manors 40 = .ok (.ireturn, 1) := by decide +kernel
theorem dX3_manors_41 : decode cX3_manors 41 = .ok (.aload_n 0, 1) := by decide +kernel
theorem dX3_manors_42 : decode cX3_manors 42 = .ok (.getfield 13, 3) := by decide +kernel
theorem dX3_manors_45 : decode cX3_manors 45 = .ok (.aload_n 0, 1) := by decide +kernel
theorem dX3_manors_46 : decode cX3_manors 46 = .ok (.getfield 19, 3) := by decide +kernel
theorem dX3_manors_49 : decode cX3_manors 49 = .ok (.invokestatic 183, 3) := by decide +kernel
theorem dX3_manors_52 : decode cX3_manors 52 = .ok (.aload_n 0, 1) := by decide +kernel
theorem dX3_manors_53 : decode cX3_manors 53 = .ok (.getfield 16, 3) := by decide +kernel
theorem dX3_manors_56 : decode cX3_manors 56 = .ok (.aload_n 0, 1) := by decide +kernel
theorem dX3_manors_57 : decode cX3_manors 57 = .ok (.getfield 22, 3) := by decide +kernel
theorem dX3_manors_60 : decode cX3_manors 60 = .ok (.invokestatic 183, 3) := by decide +kernel
theorem dX3_manors_63 : decode cX3_manors 63 = .ok (.aload_n 0, 1) := by decide +kernel
theorem dX3_manors_64 : decode cX3_manors 64 = .ok (.getfield 104, 3) := by decide +kernel
theorem dX3_manors_67 : decode cX3_manors 67 = .ok (.istore 4, 2) := by decide +kernel
theorem dX3_manors_69 : decode cX3_manors 69 = .ok (.aload_n 0, 1) := by decide +kernel
theorem dX3_manors_70 : decode cX3_manors 70 = .ok (.iload_n 2, 1) := by decide +kernel
theorem dX3_manors_71 : decode cX3_manors 71 = .ok (.putfield 171, 3) := by decide +kernel
theorem dX3_manors_74 : decode cX3_manors 74 = .ok (.iconst 0, 1) := by decide +kernel
theorem dX3_manors_75 : decode cX3_manors 75 = .ok (.istore 5, 2) := by decide +kernel
theorem dX3_manors_77 : decode cX3_manors 77 = .ok (.iconst 0, 1) := by decide +kernel
theorem dX3_manors_78 : decode cX3_manors 78 = .ok (.istore 6, 2) := by decide +kernel
theorem dX3_manors_80 : decode cX3_manors 80 = .ok (.iload 6, 2) := by decide +kernel
theorem dX3_manors_82 : decode cX3_manors 82 = .ok (.iload_n 1, 1) := by decide +kernel
theorem dX3_manors_83 : decode cX3_manors 83 = .ok (.if_icmp .ge 123, 3) := by decide +kernel
theorem dX3_manors_86 : decode cX3_manors 86 = .ok (.iconst 0, 1) := by decide +kernel
theorem dX3_manors_87 : decode cX3_manors 87 = .ok (.istore 7, 2) := by decide +kernel
theorem dX3_manors_89 : decode cX3_manors 89 = .ok (.iload 7, 2) := by decide +kernel
theorem dX3_manors_91 : decode cX3_manors 91 = .ok (.aload_n 0, 1) := by decide +kernel
theorem dX3_manors_92 : decode cX3_manors 92 = .ok (.getfield 76, 3) := by decide +kernel
theorem dX3_manors_95 : decode cX3_manors 95 = .ok (.if_icmp .ge 49, 3) := by decide +kernel
theorem dX3_manors_98 : decode cX3_manors 98 = .ok (.aload_n 0, 1) := by decide +kernel
theorem dX3_manors_99 : decode cX3_manors 99 = .ok (.iload 7, 2) := by decide +kernel
theorem dX3_manors_101 : decode cX3_manors 101 = .ok (.invokevirtual 110, 3) := by decide +kernel
theorem dX3_manors_104 : decode cX3_manors 104 = .ok (.ifCond .eq 34, 3) := by decide +kernel
theorem dX3_manors_107 : decode cX3_manors 107 = .ok (.aload_n 0, 1) := by decide +kernel
theorem dX3_manors_108 : decode cX3_manors 108 = .ok (.bipush 10, 2) := by decide +kernel
theorem dX3_manors_110 : decode cX3_manors 110 = .ok (.invokevirtual 187, 3) := by decide +kernel
theorem dX3_manors_113 : decode cX3_manors 113 = .ok (.aload_n 0, 1) := by decide +kernel
theorem dX3_manors_114 : decode cX3_manors 114 = .ok (.getfield 13, 3) := by decide +kernel
theorem dX3_manors_117 : decode cX3_manors 117 = .ok (.iconst 4, 1) := by decide +kernel
theorem dX3_manors_118 : decode cX3_manors 118 = .ok (.iload 7, 2) := by decide +kernel
theorem dX3_manors_120 : decode cX3_manors 120 = .ok (.imul, 1) := by decide +kernel
theorem dX3_manors_121 : decode cX3_manors 121 = .ok (.iconst 1, 1) := by decide +kernel
theorem dX3_manors_122 : decode cX3_manors 122 = .ok (.iadd, 1) := by decide +kernel
theorem dX3_manors_123 : decode cX3_manors 123 = .ok (.iaload, 1) := by decide +kernel
theorem dX3_manors_124 : decode cX3_manors 124 = .ok (.if_icmp .ge 14, 3) := by decide +kernel
theorem dX3_manors_127 : decode cX3_manors 127 = .ok (.iload 5, 2) := by decide +kernel
theorem dX3_manors_129 : decode cX3_manors 129 = .ok (.aload_n 0, 1) := by decide +kernel
theorem dX3_manors_130 : decode cX3_manors 130 = .ok (.iload 7, 2) := by decide +kernel
theorem dX3_manors_132 : decode cX3_manors 132 = .ok (.invokevirtual 139, 3) := by decide +kernel
theorem dX3_manors_135 : decode cX3_manors 135 = .ok (.iadd, 1) := by decide +kernel
theorem dX3_manors_136 : decode cX3_manors 136 = .ok (.istore 5, 2) := by decide +kernel
theorem dX3_manors_138 : decode cX3_manors 138 = .ok (.iinc 7 1, 3) := by decide +kernel
theorem dX3_manors_141 : decode cX3_manors 141 = .ok (.goto (-52), 3) := by decide +kernel
theorem dX3_manors_144 : decode cX3_manors 144 = .ok (.aload_n 0, 1) := by decide +kernel
theorem dX3_manors_145 : decode cX3_manors 145 = .ok (.getfield 79, 3) := by decide +kernel
theorem dX3_manors_148 : decode cX3_manors 148 = .ok (.ifCond .le 42, 3) := by decide +kernel
theorem dX3_manors_151 : decode cX3_manors 151 = .ok (.aload_n 0, 1) := by decide +kernel
theorem dX3_manors_152 : decode cX3_manors 152 = .ok (.aload_n 0, 1) := by decide +kernel
theorem dX3_manors_153 : decode cX3_manors 153 = .ok (.getfield 79, 3) := by decide +kernel
theorem dX3_manors_156 : decode cX3_manors 156 = .ok (.invokevirtual 187, 3) := by decide +kernel
theorem dX3_manors_159 : decode cX3_manors 159 = .ok (.istore 7, 2) := by decide +kernel
theorem dX3_manors_161 : decode cX3_manors 161 = .ok (.aload_n 0, 1) := by decide +kernel
theorem dX3_manors_162 : decode cX3_manors 162 = .ok (.aload_n 0, 1) := by decide +kernel
theorem dX3_manors_163 : decode cX3_manors 163 = .ok (.getfield 76, 3) := by decide +kernel
theorem dX3_manors_166 : decode cX3_manors 166 = .ok (.invokevirtual 187, 3) := by decide +kernel
theorem dX3_manors_169 : decode cX3_manors 169 = .ok (.istore 8, 2) := by decide +kernel
theorem dX3_manors_171 : decode cX3_manors 171 = .ok (.aload_n 0, 1) := by decide +kernel
theorem dX3_manors_172 : decode cX3_manors 172 = .ok (.iload 7, 2) := by decide +kernel
theorem dX3_manors_174 : decode cX3_manors 174 = .ok (.iload 8, 2) := by decide +kernel
theorem dX3_manors_176 : decode cX3_manors 176 = .ok (.invokevirtual 132, 3) := by decide +kernel
theorem dX3_manors_179 : decode cX3_manors 179 = .ok (.ifCond .eq 11, 3) := by decide +kernel
theorem dX3_manors_182 : decode cX3_manors 182 = .ok (.aload_n 0, 1) := by decide +kernel
theorem dX3_manors_183 : decode cX3_manors 183 = .ok (.iload 7, 2) := by decide +kernel
theorem dX3_manors_185 : decode cX3_manors 185 = .ok (.iload 8, 2) := by decide +kernel
theorem dX3_manors_187 : decode cX3_manors 187 = .ok (.invokevirtual 135, 3) := by decide +kernel
theorem dX3_manors_190 : decode cX3_manors 190 = .ok (.aload_n 0, 1) := by decide +kernel
theorem dX3_manors_191 : decode cX3_manors 191 = .ok (.dup, 1) := by decide +kernel
theorem dX3_manors_192 : decode cX3_manors 192 = .ok (.getfield 104, 3) := by decide +kernel
theorem dX3_manors_195 : decode cX3_manors 195 = .ok (.iconst 1, 1) := by decide +kernel
theorem dX3_manors_196 : decode cX3_manors 196 = .ok (.iadd, 1) := by decide +kernel
theorem dX3_manors_197 : decode cX3_manors 197 = .ok (.putfield 104, 3) := by decide +kernel
theorem dX3_manors_200 : decode cX3_manors 200 = .ok (.iinc 6 1, 3) := by decide +kernel
theorem dX3_manors_203 : decode cX3_manors 203 = .ok (.goto (-123), 3) := by decide +kernel
theorem dX3_manors_206 : decode cX3_manors 206 = .ok (.aload_n 0, 1) := by decide +kernel
theorem dX3_manors_207 : decode cX3_manors 207 = .ok (.invokevirtual 190, 3) := by decide +kernel
theorem dX3_manors_210 : decode cX3_manors 210 = .ok (.istore 6, 2) := by decide +kernel
theorem dX3_manors_212 : decode cX3_manors 212 = .ok (.aload_n 0, 1) := by decide +kernel
theorem dX3_manors_213 : decode cX3_manors 213 = .ok (.getfield 19, 3) := by decide +kernel
theorem dX3_manors_216 : decode cX3_manors 216 = .ok (.aload_n 0, 1) := by decide +kernel
theorem dX3_manors_217 : decode cX3_manors 217 = .ok (.getfield 13, 3) := by decide +kernel
theorem dX3_manors_220 : decode cX3_manors 220 = .ok (.invokestatic 183, 3) := by decide +kernel
theorem dX3_manors_223 : decode cX3_manors 223 = .ok (.aload_n 0, 1) := by decide +kernel
theorem dX3_manors_224 : decode cX3_manors 224 = .ok (.getfield 22, 3) := by decide +kernel
theorem dX3_manors_227 : decode cX3_manors 227 = .ok (.aload_n 0, 1) := by decide +kernel
theorem dX3_manors_228 : decode cX3_manors 228 = .ok (.getfield 16, 3) := by decide +kernel
theorem dX3_manors_231 : decode cX3_manors 231 = .ok (.invokestatic 183, 3) := by decide +kernel
theorem dX3_manors_234 : decode cX3_manors 234 = .ok (.aload_n 0, 1) := by decide +kernel
theorem dX3_manors_235 : decode cX3_manors 235 = .ok (.iload 4, 2) := by decide +kernel
theorem dX3_manors_237 : decode cX3_manors 237 = .ok (.putfield 104, 3) := by decide +kernel
theorem dX3_manors_240 : decode cX3_manors 240 = .ok (.iload_n 3, 1) := by decide +kernel
theorem dX3_manors_241 : decode cX3_manors 241 = .ok (.ifCond .ne 8, 3) := by decide +kernel
theorem dX3_manors_244 : decode cX3_manors 244 = .ok (.iload 5, 2) := by decide +kernel
theorem dX3_manors_246 : decode cX3_manors 246 = .ok (.goto 17, 3) := by decide +kernel
theorem dX3_manors_249 : decode cX3_manors 249 = .ok (.iload_n 3, 1) := by decide +kernel
theorem dX3_manors_250 : decode cX3_manors 250 = .ok (.iconst 1, 1) := by decide +kernel
theorem dX3_manors_251 : decode cX3_manors 251 = .ok (.if_icmp .ne 8, 3) := by decide +kernel
theorem dX3_manors_254 : decode cX3_manors 254 = .ok (.iload 6, 2) := by decide +kernel
theorem dX3_manors_256 : decode cX3_manors 256 = .ok (.goto 7, 3) := by decide +kernel
theorem dX3_manors_259 : decode cX3_manors 259 = .ok (.aload_n 0, 1) := by decide +kernel
theorem dX3_manors_260 : decode cX3_manors 260 = .ok (.getfield 171, 3) := by decide +kernel
theorem dX3_manors_263 : decode cX3_manors 263 = .ok (.ireturn, 1) := by decide +kernel
set_option maxRecDepth 20000 in
theorem ggX3_image_X3_copy : GoodIn wsX3_image wsX3_copy := goodIn_r _ [21] (by decide +kernel) (by decide +kernel)
set_option maxRecDepth 20000 in
theorem gX3_image_X3_copy : GoodIn wsX3_image (va_wsS RX3 183 yX3_copy wsX3_copy) := goodIn_app (goodIn_of _ (by decide +kernel)) ggX3_image_X3_copy
theorem dX3_image_0 : decode cX3_image 0 = .ok (.aload_n 0, 1) := by decide +kernel
theorem dX3_image_1 : decode cX3_image 1 = .ok (.getfield 13, 3) := by decide +kernel
theorem dX3_image_4 : decode cX3_image 4 = .ok (.aload_n 0, 1) := by decide +kernel
theorem dX3_image_5 : decode cX3_image 5 = .ok (.getfield 25, 3) := by decide +kernel
theorem dX3_image_8 : decode cX3_image 8 = .ok (.invokestatic 183, 3) := by decide +kernel
theorem dX3_image_11 : decode cX3_image 11 = .ok (.aload_n 0, 1) := by decide +kernel
theorem dX3_image_12 : decode cX3_image 12 = .ok (.getfield 16, 3) := by decide +kernel
theorem dX3_image_15 : decode cX3_image 15 = .ok (.aload_n 0, 1) := by decide +kernel
theorem dX3_image_16 : decode cX3_image 16 = .ok (.getfield 28, 3) := by decide +kernel
theorem dX3_image_19 : decode cX3_image 19 = .ok (.invokestatic 183, 3) := by decide +kernel
theorem dX3_image_22 : decode cX3_image 22 = .ok (.aload_n 0, 1) := by decide +kernel
theorem dX3_image_23 : decode cX3_image 23 = .ok (.getfield 31, 3) := by decide +kernel
theorem dX3_image_26 : decode cX3_image 26 = .ok (.iconst 0, 1) := by decide +kernel
theorem dX3_image_27 : decode cX3_image 27 = .ok (.aload_n 0, 1) := by decide +kernel
theorem dX3_image_28 : decode cX3_image 28 = .ok (.getfield 34, 3) := by decide +kernel
theorem dX3_image_31 : decode cX3_image 31 = .ok (.iastore, 1) := by decide +kernel
theorem dX3_image_32 : decode cX3_image 32 = .ok (.aload_n 0, 1) := by decide +kernel
theorem dX3_image_33 : decode cX3_image 33 = .ok (.getfield 31, 3) := by decide +kernel
theorem dX3_image_36 : decode cX3_image 36 = .ok (.iconst 1, 1) := by decide +kernel
theorem dX3_image_37 : decode cX3_image 37 = .ok (.aload_n 0, 1) := by decide +kernel
theorem dX3_image_38 : decode cX3_image 38 = .ok (.getfield 38, 3) := by decide +kernel
theorem dX3_image_41 : decode cX3_image 41 = .ok (.iastore, 1) := by decide +kernel
theorem dX3_image_42 : decode cX3_image 42 = .ok (.aload_n 0, 1) := by decide +kernel
theorem dX3_image_43 : decode cX3_image 43 = .ok (.getfield 31, 3) := by decide +kernel
theorem dX3_image_46 : decode cX3_image 46 = .ok (.iconst 2, 1) := by decide +kernel
theorem dX3_image_47 : decode cX3_image 47 = .ok (.aload_n 0, 1) := by decide +kernel
theorem dX3_image_48 : decode cX3_image 48 = .ok (.getfield 41, 3) := by decide +kernel
theorem dX3_image_51 : decode cX3_image 51 = .ok (.iastore, 1) := by decide +kernel
theorem dX3_image_52 : decode cX3_image 52 = .ok (.aload_n 0, 1) := by decide +kernel
theorem dX3_image_53 : decode cX3_image 53 = .ok (.getfield 31, 3) := by decide +kernel
theorem dX3_image_56 : decode cX3_image 56 = .ok (.iconst 3, 1) := by decide +kernel
theorem dX3_image_57 : decode cX3_image 57 = .ok (.aload_n 0, 1) := by decide +kernel
theorem dX3_image_58 : decode cX3_image 58 = .ok (.getfield 70, 3) := by decide +kernel
theorem dX3_image_61 : decode cX3_image 61 = .ok (.iastore, 1) := by decide +kernel
theorem dX3_image_62 : decode cX3_image 62 = .ok (.aload_n 0, 1) := by decide +kernel
theorem dX3_image_63 : decode cX3_image 63 = .ok (.aload_n 0, 1) := by decide +kernel
theorem dX3_image_64 : decode cX3_image 64 = .ok (.getfield 76, 3) := by decide +kernel
theorem dX3_image_67 : decode cX3_image 67 = .ok (.putfield 193, 3) := by decide +kernel
theorem dX3_image_70 : decode cX3_image 70 = .ok (.aload_n 0, 1) := by decide +kernel
theorem dX3_image_71 : decode cX3_image 71 = .ok (.aload_n 0, 1) := by decide +kernel
theorem dX3_image_72 : decode cX3_image 72 = .ok (.getfield 79, 3) := by decide +kernel
theorem dX3_image_75 : decode cX3_image 75 = .ok (.putfield 196, 3) := by decide +kernel
theorem dX3_image_78 : decode cX3_image 78 = .ok (.aload_n 0, 1) := by decide +kernel
theorem dX3_image_79 : decode cX3_image 79 = .ok (.aload_n 0, 1) := by decide +kernel
theorem dX3_image_80 : decode cX3_image 80 = .ok (.getfield 142, 3) := by decide +kernel
theorem dX3_image_83 : decode cX3_image 83 = .ok (.putfield 199, 3) := by decide +kernel
theorem dX3_image_86 : decode cX3_image 86 = .ok (.aload_n 0, 1) := by decide +kernel
theorem dX3_image_87 : decode cX3_image 87 = .ok (.aload_n 0, 1) := by decide +kernel
theorem dX3_image_88 : decode cX3_image 88 = .ok (.getfield 104, 3) := by decide +kernel
theorem dX3_image_91 : decode cX3_image 91 = .ok (.putfield 44, 3) := by decide +kernel
theorem dX3_image_94 : decode cX3_image 94 = .ok (.aload_n 0, 1) := by decide +kernel
theorem dX3_image_95 : decode cX3_image 95 = .ok (.getfield 104, 3) := by decide +kernel
theorem dX3_image_98 : decode cX3_image 98 = .ok (.ireturn, 1) := by decide +kernel
set_option maxRecDepth 20000 in
theorem ggX3_restore_X3_copy : GoodIn wsX3_restore wsX3_copy := goodIn_r _ [21] (by decide +kernel) (by decide +kernel)
set_option maxRecDepth 20000 in
theorem gX3_restore_X3_copy : GoodIn wsX3_restore (va_wsS RX3 183 yX3_copy wsX3_copy) := goodIn_app (goodIn_of _ (by decide +kernel)) ggX3_restore_X3_copy
theorem dX3_restore_0 : decode cX3_restore 0 = .ok (.aload_n 0, 1) := by decide +kernel
theorem dX3_restore_1 : decode cX3_restore 1 = .ok (.getfield 44, 3) := by decide +kernel
theorem dX3_restore_4 : decode cX3_restore 4 = .ok (.iconst (-1), 1) := by decide +kernel
theorem dX3_restore_5 : decode cX3_restore 5 = .ok (.if_icmp .ne 6, 3) := by decide +kernel
theorem dX3_restore_8 : decode cX3_restore 8 = .ok (.bipush (-103), 2) := by decide +kernel
theorem dX3_restore_10 : decode cX3_restore 10 = .ok (.ireturn, 1) := by decide +kernel
theorem dX3_restore_11 : decode cX3_restore 11 = .ok (.aload_n 0, 1) := by decide +kernel
theorem dX3_restore_12 : decode cX3_restore 12 = .ok (.getfield 25, 3) := by decide +kernel
theorem dX3_restore_15 : decode cX3_restore 15 = .ok (.aload_n 0, 1) := by decide +kernel
theorem dX3_restore_16 : decode cX3_restore 16 = .ok (.getfield 13, 3) := by decide +kernel
theorem dX3_restore_19 : decode cX3_restore 19 = .ok (.invokestatic 183, 3) := by decide +kernel
theorem dX3_restore_22 : decode cX3_restore 22 = .ok (.aload_n 0, 1) := by decide +kernel
theorem dX3_restore_23 : decode cX3_restore 23 = .ok (.getfield 28, 3) := by decide +kernel
theorem dX3_restore_26 : decode cX3_restore 26 = .ok (.aload_n 0, 1) := by decide +kernel
theorem dX3_restore_27 : decode cX3_restore 27 = .ok (.getfield 16, 3) := by decide +kernel
theorem dX3_restore_30 : decode cX3_restore 30 = .ok (.invokestatic 183, 3) := by decide +kernel
theorem dX3_restore_33 : decode cX3_restore 33 = .ok (.aload_n 0, 1) := by decide +kernel
theorem dX3_restore_34 : decode cX3_restore 34 = .ok (.aload_n 0, 1) := by decide +kernel
theorem dX3_restore_35 : decode cX3_restore 35 = .ok (.getfield 31, 3) := by decide +kernel
theorem dX3_restore_38 : decode cX3_restore 38 = .ok (.iconst 0, 1) := by decide +kernel
theorem dX3_restore_39 : decode cX3_restore 39 = .ok (.iaload, 1) := by decide +kernel
theorem dX3_restore_40 : decode cX3_restore 40 = .ok (.putfield 34, 3) := by decide +kernel
theorem dX3_restore_43 : decode cX3_restore 43 = .ok (.aload_n 0, 1) := by decide +kernel
theorem dX3_restore_44 : decode cX3_restore 44 = .ok (.aload_n 0, 1) := by decide +kernel
theorem dX3_restore_45 : decode cX3_restore 45 = .ok (.getfield 31, 3) := by decide +kernel
theorem dX3_restore_48 : decode cX3_restore 48 = .ok (.iconst 1, 1) := by decide +kernel
theorem dX3_restore_49 : decode cX3_restore 49 = .ok (.iaload, 1) := by decide +kernel
theorem dX3_restore_50 : decode cX3_restore 50 = .ok (.putfield 38, 3) := by decide +kernel
theorem dX3_restore_53 : decode cX3_restore 53 = .ok (.aload_n 0, 1) := by decide +kernel
theorem dX3_restore_54 : decode cX3_restore 54 = .ok (.aload_n 0, 1) := by decide +kernel
theorem dX3_restore_55 : decode cX3_restore 55 = .ok (.getfield 31, 3) := by decide +kernel
theorem dX3_restore_58 : decode cX3_restore 58 = .ok (.iconst 2, 1) := by decide +kernel
theorem dX3_restore_59 : decode cX3_restore 59 = .ok (.iaload, 1) := by decide +kernel
theorem dX3_restore_60 : decode cX3_restore 60 = .ok (.putfield 41, 3) := by decide +kernel
theorem dX3_restore_63 : decode cX3_restore 63 = .ok (.aload_n 0, 1) := by decide +kernel
theorem dX3_restore_64 : decode cX3_restore 64 = .ok (.aload_n 0, 1) := by decide +kernel
theorem dX3_restore_65 : decode cX3_restore 65 = .ok (.getfield 31, 3) := by decide +kernel
theorem dX3_restore_68 : decode cX3_restore 68 = .ok (.iconst 3, 1) := by decide +kernel
theorem dX3_restore_69 : decode cX3_restore 69 = .ok (.iaload, 1) := by decide +kernel
theorem dX3_restore_70 : decode cX3_restore 70 = .ok (.putfield 70, 3) := by decide +kernel
theorem dX3_restore_73 : decode cX3_restore 73 = .ok (.aload_n 0, 1) := by decide +kernel
theorem dX3_restore_74 : decode cX3_restore 74 = .ok (.aload_n 0, 1) := by decide +kernel
theorem dX3_restore_75 : decode cX3_restore 75 = .ok (.getfield 193, 3) := by decide +kernel
theorem dX3_restore_78 : decode cX3_restore 78 = .ok (.putfield 76, 3) := by decide +kernel
theorem dX3_restore_81 : decode cX3_restore 81 = .ok (.aload_n 0, 1) := by decide +kernel
theorem dX3_restore_82 : decode cX3_restore 82 = .ok (.aload_n 0, 1) := by decide +kernel
theorem dX3_restore_83 : decode cX3_restore 83 = .ok (.getfield 196, 3) := by decide +kernel
theorem dX3_restore_86 : decode cX3_restore 86 = .ok (.putfield 79, 3) := by decide +kernel
theorem dX3_restore_89 : decode cX3_restore 89 = .ok (.aload_n 0, 1) := by decide +kernel
theorem dX3_restore_90 : decode cX3_restore 90 = .ok (.aload_n 0, 1) := by decide +kernel
theorem dX3_restore_91 : decode cX3_restore 91 = .ok (.getfield 199, 3) := by decide +kernel
theorem dX3_restore_94 : decode cX3_restore 94 = .ok (.putfield 142, 3) := by decide +kernel
theorem dX3_restore_97 : decode cX3_restore 97 = .ok (.aload_n 0, 1) := by decide +kernel
theorem dX3_restore_98 : decode cX3_restore 98 = .ok (.aload_n 0, 1) := by decide +kernel
theorem dX3_restore_99 : decode cX3_restore 99 = .ok (.getfield 44, 3) := by decide +kernel
theorem dX3_restore_102 : decode cX3_restore 102 = .ok (.putfield 104, 3) := by decide +kernel
theorem dX3_restore_105 : decode cX3_restore 105 = .ok (.aload_n 0, 1) := by decide +kernel
theorem dX3_restore_106 : decode cX3_restore 106 = .ok (.getfield 104, 3) := by decide +kernel
theorem dX3_restore_109 : decode cX3_restore 109 = .ok (.ireturn, 1) := by decide +kernel
theorem dX3_thereMany_0 : decode cX3_thereMany 0 = .ok (.iconst 0, 1) := by decide +kernel
theorem dX3_thereMany_1 : decode cX3_thereMany 1 = .ok (.istore_n 1, 1) := by decide +kernel
theorem dX3_thereMany_2 : decode cX3_thereMany 2 = .ok (.iconst 0, 1) := by decide +kernel
theorem dX3_thereMany_3 : decode cX3_thereMany 3 = .ok (.istore_n 2, 1) := by decide +kernel
theorem dX3_thereMany_4 : decode cX3_thereMany 4 = .ok (.iload_n 2, 1) := by decide +kernel
theorem dX3_thereMany_5 : decode cX3_thereMany 5 = .ok (.aload_n 0, 1) := by decide +kernel
theorem dX3_thereMany_6 : decode cX3_thereMany 6 = .ok (.getfield 79, 3) := by decide +kernel
theorem dX3_thereMany_9 : decode cX3_thereMany 9 = .ok (.if_icmp .ge 31, 3) := by decide +kernel
theorem dX3_thereMany_12 : decode cX3_thereMany 12 = .ok (.iload_n 1, 1) := by decide +kernel
theorem dX3_thereMany_13 : decode cX3_thereMany 13 = .ok (.aload_n 0, 1) := by decide +kernel
theorem dX3_thereMany_14 : decode cX3_thereMany 14 = .ok (.getfield 16, 3) := by decide +kernel
theorem dX3_thereMany_17 : decode cX3_thereMany 17 = .ok (.iconst 5, 1) := by decide +kernel
theorem dX3_thereMany_18 : decode cX3_thereMany 18 = .ok (.iload_n 2, 1) := by decide +kernel
theorem dX3_thereMany_19 : decode cX3_thereMany 19 = .ok (.imul, 1) := by decide +kernel
theorem dX3_thereMany_20 : decode cX3_thereMany 20 = .ok (.iconst 1, 1) := by decide +kernel
theorem dX3_thereMany_21 : decode cX3_thereMany 21 = .ok (.iadd, 1) := by decide +kernel
theorem dX3_thereMany_22 : decode cX3_thereMany 22 = .ok (.iaload, 1) := by decide +kernel
theorem dX3_thereMany_23 : decode cX3_thereMany 23 = .ok (.iconst (-1), 1) := by decide +kernel
theorem dX3_thereMany_24 : decode cX3_thereMany 24 = .ok (.if_icmp .ne 7, 3) := by decide +kernel
theorem dX3_thereMany_27 : decode cX3_thereMany 27 = .ok (.iconst 0, 1) := by decide +kernel
theorem dX3_thereMany_28 : decode cX3_thereMany 28 = .ok (.goto 4, 3) := by decide +kernel
theorem dX3_thereMany_31 : decode cX3_thereMany 31 = .ok (.iconst 1, 1) := by decide +kernel
theorem dX3_thereMany_32 : decode cX3_thereMany 32 = .ok (.iadd, 1) := by decide +kernel
theorem dX3_thereMany_33 : decode cX3_thereMany 33 = .ok (.istore_n 1, 1) := by decide +kernel
theorem dX3_thereMany_34 : decode cX3_thereMany 34 = .ok (.iinc 2 1, 3) := by decide +kernel
theorem dX3_thereMany_37 : decode cX3_thereMany 37 = .ok (.goto (-33), 3) := by decide +kernel
theorem dX3_thereMany_40 : decode cX3_thereMany 40 = .ok (.iload_n 1, 1) := by decide +kernel
theorem dX3_thereMany_41 : decode cX3_thereMany 41 = .ok (.ireturn, 1) := by decide +kernel
set_option maxRecDepth 20000 in
theorem ggX3_countOf_X3_livingMany : GoodIn wsX3_countOf wsX3_livingMany := goodIn_r _ [15, 5, 16, 22, 23, 24, 25, 26, 27, 28, 29, 30, 31, 32, 33, 34, 35, 36, 37, 38, 39, 40, 41, 42, 43, 44, 45] (by decide +kernel) (by decide +kernel)
set_option maxRecDepth 20000 in
theorem gX3_countOf_X3_livingMany : GoodIn wsX3_countOf (wsV RX3 190 RX3 yX3_livingMany wsX3_livingMany) := goodIn_app (goodIn_of _ (by decide +kernel)) ggX3_countOf_X3_livingMany
set_option maxRecDepth 20000 in
theorem ggX3_countOf_X3_thereMany : GoodIn wsX3_countOf wsX3_thereMany := goodIn_r _ [20, 6, 21, 22, 23, 24, 25, 26, 27, 28, 29, 30, 31, 32, 33, 34, 35, 36, 37, 38, 39, 40, 41, 42, 43, 44, 45] (by decide +kernel) (by decide +kernel)
set_option maxRecDepth 20000 in
theorem gX3_countOf_X3_thereMany : GoodIn wsX3_countOf (wsV RX3 202 RX3 yX3_thereMany wsX3_thereMany) := goodIn_app (goodIn_of _ (by decide +kernel)) ggX3_countOf_X3_thereMany
theorem dX3_countOf_0 : decode cX3_countOf 0 = .ok (.iload_n 1, 1) := by decide +kernel
theorem dX3_countOf_1 : decode cX3_countOf 1 = .ok (.tableswitch 123 0 11 #[63, 68, 73, 78, 83, 88, 93, 98, 103, 108, 113, 118], 63) := by decide +kernel
theorem dX3_countOf_64 : decode cX3_countOf 64 = .ok (.aload_n 0, 1) := by decide +kernel
theorem dX3_countOf_65 : decode cX3_countOf 65 = .ok (.getfield 34, 3) := by decide +kernel
theorem dX3_countOf_68 : decode cX3_countOf 68 = .ok (.ireturn, 1) := by decide +kernel
theorem dX3_countOf_69 : decode cX3_countOf 69 = .ok (.aload_n 0, 1) := by decide +kernel
theorem dX3_countOf_70 : decode cX3_countOf 70 = .ok (.getfield 38, 3) := by decide +kernel
theorem dX3_countOf_73 : decode cX3_countOf 73 = .ok (.ireturn, 1) := by decide +kernel
theorem dX3_countOf_74 : decode cX3_countOf 74 = .ok (.aload_n 0, 1) := by decide +kernel
theorem dX3_countOf_75 : decode cX3_countOf 75 = .ok (.getfield 41, 3) := by decide +kernel
theorem dX3_countOf_78 : decode cX3_countOf 78 = .ok (.ireturn, 1) := by decide +kernel
theorem dX3_countOf_79 : decode cX3_countOf 79 = .ok (.aload_n 0, 1) := by decide +kernel
theorem dX3_countOf_80 : decode cX3_countOf 80 = .ok (.getfield 70, 3) := by decide +kernel
theorem dX3_countOf_83 : decode cX3_countOf 83 = .ok (.ireturn, 1) := by decide +kernel
theorem dX3_countOf_84 : decode cX3_countOf 84 = .ok (.aload_n 0, 1) := by decide +kernel
theorem dX3_countOf_85 : decode cX3_countOf 85 = .ok (.getfield 76, 3) := by decide +kernel
theorem dX3_countOf_88 : decode cX3_countOf 88 = .ok (.ireturn, 1) := by decide +kernel
theorem dX3_countOf_89 : decode cX3_countOf 89 = .ok (.aload_n 0, 1) := by decide +kernel
theorem dX3_countOf_90 : decode cX3_countOf 90 = .ok (.invokevirtual 190, 3) := by decide +kernel
theorem dX3_countOf_93 : decode cX3_countOf 93 = .ok (.ireturn, 1) := by decide +kernel
theorem dX3_countOf_94 : decode cX3_countOf 94 = .ok (.aload_n 0, 1) := by decide +kernel
theorem dX3_countOf_95 : decode cX3_countOf 95 = .ok (.getfield 79, 3) := by decide +kernel
theorem dX3_countOf_98 : decode cX3_countOf 98 = .ok (.ireturn, 1) := by decide +kernel
theorem dX3_countOf_99 : decode cX3_countOf 99 = .ok (.aload_n 0, 1) := by decide +kernel
theorem dX3_countOf_100 : decode cX3_countOf 100 = .ok (.invokevirtual 202, 3) := by decide +kernel
theorem dX3_countOf_103 : decode cX3_countOf 103 = .ok (.ireturn, 1) := by decide +kernel
theorem dX3_countOf_104 : decode cX3_countOf 104 = .ok (.aload_n 0, 1) := by decide +kernel
theorem dX3_countOf_105 : decode cX3_countOf 105 = .ok (.getfield 104, 3) := by decide +kernel
theorem dX3_countOf_108 : decode cX3_countOf 108 = .ok (.ireturn, 1) := by decide +kernel
theorem dX3_countOf_109 : decode cX3_countOf 109 = .ok (.aload_n 0, 1) := by decide +kernel
theorem dX3_countOf_110 : decode cX3_countOf 110 = .ok (.getfield 142, 3) := by decide +kernel
theorem dX3_countOf_113 : decode cX3_countOf 113 = .ok (.ireturn, 1) := by decide +kernel
theorem dX3_countOf_114 : decode cX3_countOf 114 = .ok (.aload_n 0, 1) := by decide +kernel
theorem dX3_countOf_115 : decode cX3_countOf 115 = .ok (.getfield 53, 3) := by decide +kernel
theorem dX3_countOf_118 : decode cX3_countOf 118 = .ok (.ireturn, 1) := by decide +kernel
theorem dX3_countOf_119 : decode cX3_countOf 119 = .ok (.aload_n 0, 1) := by decide +kernel
theorem dX3_countOf_120 : decode cX3_countOf 120 = .ok (.getfield 73, 3) := by decide +kernel
theorem dX3_countOf_123 : decode cX3_countOf 123 = .ok (.ireturn, 1) := by decide +kernel
theorem dX3_countOf_124 : decode cX3_countOf 124 = .ok (.bipush (-102), 2) := by decide +kernel
theorem dX3_countOf_126 : decode cX3_countOf 126 = .ok (.ireturn, 1) := by decide +kernel
set_option maxRecDepth 20000 in
theorem ggX3_count_X3_countOf : GoodIn wsX3_count wsX3_countOf := goodIn_r _ [5, 6, 7, 8, 9, 10, 11, 12, 13, 14, 15, 16, 17, 18, 4, 19, 20, 21, 22, 23, 24, 25, 26, 27, 28, 29, 30, 31, 32, 33, 34, 35, 36, 37, 38, 39, 40, 41, 42, 43, 44, 45, 46, 47, 48, 49] (by decide +kernel) (by decide +kernel)
set_option maxRecDepth 20000 in
theorem gX3_count_X3_countOf : GoodIn wsX3_count (wsV RX3 205 RX3 yX3_countOf wsX3_countOf) := goodIn_app (goodIn_of _ (by decide +kernel)) ggX3_count_X3_countOf
theorem dX3_count_0 : decode cX3_count 0 = .ok (.aload_n 0, 1) := by decide +kernel
theorem dX3_count_1 : decode cX3_count 1 = .ok (.iload_n 1, 1) := by decide +kernel
theorem dX3_count_2 : decode cX3_count 2 = .ok (.invokevirtual 205, 3) := by decide +kernel
theorem dX3_count_5 : decode cX3_count 5 = .ok (.ireturn, 1) := by decide +kernel
theorem dX3_say_0 : decode cX3_say 0 = .ok (.aload_n 0, 1) := by decide +kernel
theorem dX3_say_1 : decode cX3_say 1 = .ok (.ldc2_w 208, 3) := by decide +kernel
theorem dX3_say_4 : decode cX3_say 4 = .ok (.aload_n 0, 1) := by decide +kernel
theorem dX3_say_5 : decode cX3_say 5 = .ok (.getfield 210, 3) := by decide +kernel
theorem dX3_say_8 : decode cX3_say 8 = .ok (.lmul, 1) := by decide +kernel
theorem dX3_say_9 : decode cX3_say 9 = .ok (.lload_n 1, 1) := by decide +kernel
theorem dX3_say_10 : decode cX3_say 10 = .ok (.ladd, 1) := by decide +kernel
theorem dX3_say_11 : decode cX3_say 11 = .ok (.putfield 210, 3) := by decide +kernel
theorem dX3_say_14 : decode cX3_say 14 = .ok (.return_, 1) := by decide +kernel
set_option maxRecDepth 20000 in
theorem ggX3_digest_X3_tell : GoodIn wsX3_digest wsX3_tell := goodIn_r _ [12, 13, 14, 15, 16, 17, 11, 18, 4, 5, 19, 20, 21, 22, 23, 24, 25, 26, 27, 28, 29, 30, 31, 32, 33, 34, 35, 36, 37, 38, 39, 40, 41, 42, 43, 44, 45, 46, 47, 48, 49, 50, 51, 52, 53, 54, 96, 97, 98, 99, 100, 101, 102, 103, 104, 105, 106, 107, 108, 109, 110, 111, 112, 113, 114, 115, 116, 117, 118, 119] (by decide +kernel) (by decide +kernel)
set_option maxRecDepth 20000 in
theorem gX3_digest_X3_tell : GoodIn wsX3_digest (wsV RX3 120 RX3 yX3_tell wsX3_tell) := goodIn_app (goodIn_of _ (by decide +kernel)) ggX3_digest_X3_tell
set_option maxRecDepth 20000 in
theorem ggX3_digest_X3_say : GoodIn wsX3_digest wsX3_say := goodIn_r _ [58, 59, 2, 96, 97, 98, 99, 100, 101, 102, 103, 104, 105, 106, 107, 108, 109, 110, 111, 112, 113, 114, 115, 116, 117, 118, 119] (by decide +kernel) (by decide +kernel)
set_option maxRecDepth 20000 in
theorem gX3_digest_X3_say : GoodIn wsX3_digest (wsV RX3 216 RX3 yX3_say wsX3_say) := goodIn_app (goodIn_of _ (by decide +kernel)) ggX3_digest_X3_say
set_option maxRecDepth 20000 in
theorem ggX3_digest_X3_lives : GoodIn wsX3_digest wsX3_lives := goodIn_r _ [37, 13, 96, 97, 98, 99, 100, 101, 102, 103, 104, 105, 106, 107, 108, 109, 110, 111, 112, 113, 114, 115, 116, 117, 118, 119] (by decide +kernel) (by decide +kernel)
set_option maxRecDepth 20000 in
theorem gX3_digest_X3_lives : GoodIn wsX3_digest (wsV RX3 110 RX3 yX3_lives wsX3_lives) := goodIn_app (goodIn_of _ (by decide +kernel)) ggX3_digest_X3_lives
set_option maxRecDepth 20000 in
theorem ggX3_digest_X3_safeOf : GoodIn wsX3_digest wsX3_safeOf := goodIn_r _ [63, 14, 15, 16, 17, 11, 18, 4, 5, 19, 20, 21, 22, 23, 64, 65, 66, 38, 39, 40, 41, 42, 43, 44, 45, 24, 25, 26, 27, 13, 28, 29, 30, 31, 32, 33, 46, 47, 48, 49, 50, 51, 52, 53, 54, 96, 97, 98, 99, 100, 101, 102, 103, 104, 105, 106, 107, 108, 109, 110, 111, 112, 113, 114, 115, 116, 117, 118, 119] (by decide +kernel) (by decide +kernel)
set_option maxRecDepth 20000 in
theorem gX3_digest_X3_safeOf : GoodIn wsX3_digest (wsV RX3 148 RX3 yX3_safeOf wsX3_safeOf) := goodIn_app (goodIn_of _ (by decide +kernel)) ggX3_digest_X3_safeOf
set_option maxRecDepth 20000 in
theorem ggX3_digest_X3_givingOf : GoodIn wsX3_digest wsX3_givingOf := goodIn_r _ [70, 15, 16, 17, 11, 18, 4, 5, 71, 72, 73, 74, 13, 14, 23, 19, 20, 21, 22, 38, 39, 40, 41, 42, 43, 44, 45, 24, 25, 26, 27, 28, 29, 30, 31, 32, 33, 46, 47, 48, 49, 50, 51, 52, 53, 54, 64, 65, 66, 96, 97, 98, 99, 100, 101, 102, 103, 104, 105, 106, 107, 108, 109, 110, 111, 112, 113, 114, 115, 116, 117, 118, 119] (by decide +kernel) (by decide +kernel)
set_option maxRecDepth 20000 in
theorem gX3_digest_X3_givingOf : GoodIn wsX3_digest (wsV RX3 155 RX3 yX3_givingOf wsX3_givingOf) := goodIn_app (goodIn_of _ (by decide +kernel)) ggX3_digest_X3_givingOf
set_option maxRecDepth 20000 in
theorem ggX3_digest_X3_meanOf : GoodIn wsX3_digest wsX3_meanOf := goodIn_r _ [78, 67, 68, 69, 11, 70, 15, 16, 17, 18, 4, 5, 71, 72, 73, 74, 13, 14, 23, 19, 20, 21, 22, 38, 39, 40, 41, 42, 43, 44, 45, 24, 25, 26, 27, 28, 29, 30, 31, 32, 33, 46, 47, 48, 49, 50, 51, 52, 53, 54, 64, 65, 66, 79, 80, 81, 96, 97, 98, 99, 100, 101, 102, 103, 104, 105, 106, 107, 108, 109, 110, 111, 112, 113, 114, 115, 116, 117, 118, 119] (by decide +kernel) (by decide +kernel)
set_option maxRecDepth 20000 in
theorem gX3_digest_X3_meanOf : GoodIn wsX3_digest (wsV RX3 161 RX3 yX3_meanOf wsX3_meanOf) := goodIn_app (goodIn_of _ (by decide +kernel)) ggX3_digest_X3_meanOf
set_option maxRecDepth 20000 in
theorem ggX3_digest_X3_countOf : GoodIn wsX3_digest wsX3_countOf := goodIn_r _ [85, 28, 33, 23, 50, 3, 4, 14, 86, 6, 87, 88, 89, 90, 11, 91, 13, 92, 93, 94, 95, 5, 96, 97, 98, 99, 100, 101, 102, 103, 104, 105, 106, 107, 108, 109, 110, 111, 112, 113, 114, 115, 116, 117, 118, 119] (by decide +kernel) (by decide +kernel)
set_option maxRecDepth 20000 in
theorem gX3_digest_X3_countOf : GoodIn wsX3_digest (wsV RX3 205 RX3 yX3_countOf wsX3_countOf) := goodIn_app (goodIn_of _ (by decide +kernel)) ggX3_digest_X3_countOf
theorem dX3_digest_0 : decode cX3_digest 0 = .ok (.aload_n 0, 1) := by decide +kernel
theorem dX3_digest_1 : decode cX3_digest 1 = .ok (.ldc2_w 214, 3) := by decide +kernel
theorem dX3_digest_4 : decode cX3_digest 4 = .ok (.putfield 210, 3) := by decide +kernel
theorem dX3_digest_7 : decode cX3_digest 7 = .ok (.iconst 0, 1) := by decide +kernel
theorem dX3_digest_8 : decode cX3_digest 8 = .ok (.istore_n 1, 1) := by decide +kernel
theorem dX3_digest_9 : decode cX3_digest 9 = .ok (.iload_n 1, 1) := by decide +kernel
theorem dX3_digest_10 : decode cX3_digest 10 = .ok (.aload_n 0, 1) := by decide +kernel
theorem dX3_digest_11 : decode cX3_digest 11 = .ok (.getfield 76, 3) := by decide +kernel
theorem dX3_digest_14 : decode cX3_digest 14 = .ok (.if_icmp .ge 99, 3) := by decide +kernel
theorem dX3_digest_17 : decode cX3_digest 17 = .ok (.iconst 0, 1) := by decide +kernel
theorem dX3_digest_18 : decode cX3_digest 18 = .ok (.istore_n 2, 1) := by decide +kernel
theorem dX3_digest_19 : decode cX3_digest 19 = .ok (.iload_n 2, 1) := by decide +kernel
theorem dX3_digest_20 : decode cX3_digest 20 = .ok (.bipush 9, 2) := by decide +kernel
theorem dX3_digest_22 : decode cX3_digest 22 = .ok (.if_icmp .ge 20, 3) := by decide +kernel
theorem dX3_digest_25 : decode cX3_digest 25 = .ok (.aload_n 0, 1) := by decide +kernel
theorem dX3_digest_26 : decode cX3_digest 26 = .ok (.aload_n 0, 1) := by decide +kernel
theorem dX3_digest_27 : decode cX3_digest 27 = .ok (.iload_n 1, 1) := by decide +kernel
theorem dX3_digest_28 : decode cX3_digest 28 = .ok (.iload_n 2, 1) := by decide +kernel
theorem dX3_digest_29 : decode cX3_digest 29 = .ok (.invokevirtual 120, 3) := by decide +kernel
theorem dX3_digest_32 : decode cX3_digest 32 = .ok (.i2l, 1) := by decide +kernel
theorem dX3_digest_33 : decode cX3_digest 33 = .ok (.invokevirtual 216, 3) := by decide +kernel
theorem dX3_digest_36 : decode cX3_digest 36 = .ok (.iinc 2 1, 3) := by decide +kernel
theorem dX3_digest_39 : decode cX3_digest 39 = .ok (.goto (-20), 3) := by decide +kernel
theorem dX3_digest_42 : decode cX3_digest 42 = .ok (.aload_n 0, 1) := by decide +kernel
theorem dX3_digest_43 : decode cX3_digest 43 = .ok (.iload_n 1, 1) := by decide +kernel
theorem dX3_digest_44 : decode cX3_digest 44 = .ok (.invokevirtual 110, 3) := by decide +kernel
theorem dX3_digest_47 : decode cX3_digest 47 = .ok (.ifCond .eq 60, 3) := by decide +kernel
theorem dX3_digest_50 : decode cX3_digest 50 = .ok (.aload_n 0, 1) := by decide +kernel
theorem dX3_digest_51 : decode cX3_digest 51 = .ok (.aload_n 0, 1) := by decide +kernel
theorem dX3_digest_52 : decode cX3_digest 52 = .ok (.iload_n 1, 1) := by decide +kernel
theorem dX3_digest_53 : decode cX3_digest 53 = .ok (.iconst 0, 1) := by decide +kernel
theorem dX3_digest_54 : decode cX3_digest 54 = .ok (.invokevirtual 148, 3) := by decide +kernel
theorem dX3_digest_57 : decode cX3_digest 57 = .ok (.i2l, 1) := by decide +kernel
theorem dX3_digest_58 : decode cX3_digest 58 = .ok (.invokevirtual 216, 3) := by decide +kernel
theorem dX3_digest_61 : decode cX3_digest 61 = .ok (.aload_n 0, 1) := by decide +kernel
theorem dX3_digest_62 : decode cX3_digest 62 = .ok (.aload_n 0, 1) := by decide +kernel
theorem dX3_digest_63 : decode cX3_digest 63 = .ok (.iload_n 1, 1) := by decide +kernel
theorem dX3_digest_64 : decode cX3_digest 64 = .ok (.iconst 1, 1) := by decide +kernel
theorem dX3_digest_65 : decode cX3_digest 65 = .ok (.invokevirtual 148, 3) := by decide +kernel
theorem dX3_digest_68 : decode cX3_digest 68 = .ok (.i2l, 1) := by decide +kernel
theorem dX3_digest_69 : decode cX3_digest 69 = .ok (.invokevirtual 216, 3) := by decide +kernel
theorem dX3_digest_72 : decode cX3_digest 72 = .ok (.aload_n 0, 1) := by decide +kernel
theorem dX3_digest_73 : decode cX3_digest 73 = .ok (.aload_n 0, 1) := by decide +kernel
theorem dX3_digest_74 : decode cX3_digest 74 = .ok (.iload_n 1, 1) := by decide +kernel
theorem dX3_digest_75 : decode cX3_digest 75 = .ok (.iconst 2, 1) := by decide +kernel
theorem dX3_digest_76 : decode cX3_digest 76 = .ok (.invokevirtual 155, 3) := by decide +kernel
theorem dX3_digest_79 : decode cX3_digest 79 = .ok (.i2l, 1) := by decide +kernel
theorem dX3_digest_80 : decode cX3_digest 80 = .ok (.invokevirtual 216, 3) := by decide +kernel
theorem dX3_digest_83 : decode cX3_digest 83 = .ok (.aload_n 0, 1) := by decide +kernel
theorem dX3_digest_84 : decode cX3_digest 84 = .ok (.aload_n 0, 1) := by decide +kernel
theorem dX3_digest_85 : decode cX3_digest 85 = .ok (.iload_n 1, 1) := by decide +kernel
theorem dX3_digest_86 : decode cX3_digest 86 = .ok (.iconst 2, 1) := by decide +kernel
theorem dX3_digest_87 : decode cX3_digest 87 = .ok (.iconst 0, 1) := by decide +kernel
theorem dX3_digest_88 : decode cX3_digest 88 = .ok (.invokevirtual 161, 3) := by decide +kernel
theorem dX3_digest_91 : decode cX3_digest 91 = .ok (.i2l, 1) := by decide +kernel
theorem dX3_digest_92 : decode cX3_digest 92 = .ok (.invokevirtual 216, 3) := by decide +kernel
theorem dX3_digest_95 : decode cX3_digest 95 = .ok (.aload_n 0, 1) := by decide +kernel
theorem dX3_digest_96 : decode cX3_digest 96 = .ok (.aload_n 0, 1) := by decide +kernel
theorem dX3_digest_97 : decode cX3_digest 97 = .ok (.iload_n 1, 1) := by decide +kernel
theorem dX3_digest_98 : decode cX3_digest 98 = .ok (.iconst 2, 1) := by decide +kernel
theorem dX3_digest_99 : decode cX3_digest 99 = .ok (.iconst 1, 1) := by decide +kernel
theorem dX3_digest_100 : decode cX3_digest 100 = .ok (.invokevirtual 161, 3) := by decide +kernel
theorem dX3_digest_103 : decode cX3_digest 103 = .ok (.i2l, 1) := by decide +kernel
theorem dX3_digest_104 : decode cX3_digest 104 = .ok (.invokevirtual 216, 3) := by decide +kernel
theorem dX3_digest_107 : decode cX3_digest 107 = .ok (.iinc 1 1, 3) := by decide +kernel
theorem dX3_digest_110 : decode cX3_digest 110 = .ok (.goto (-101), 3) := by decide +kernel
theorem dX3_digest_113 : decode cX3_digest 113 = .ok (.iconst 0, 1) := by decide +kernel
theorem dX3_digest_114 : decode cX3_digest 114 = .ok (.istore_n 1, 1) := by decide +kernel
theorem dX3_digest_115 : decode cX3_digest 115 = .ok (.iload_n 1, 1) := by decide +kernel
theorem dX3_digest_116 : decode cX3_digest 116 = .ok (.aload_n 0, 1) := by decide +kernel
theorem dX3_digest_117 : decode cX3_digest 117 = .ok (.getfield 79, 3) := by decide +kernel
theorem dX3_digest_120 : decode cX3_digest 120 = .ok (.if_icmp .ge 37, 3) := by decide +kernel
theorem dX3_digest_123 : decode cX3_digest 123 = .ok (.iconst 0, 1) := by decide +kernel
theorem dX3_digest_124 : decode cX3_digest 124 = .ok (.istore_n 2, 1) := by decide +kernel
theorem dX3_digest_125 : decode cX3_digest 125 = .ok (.iload_n 2, 1) := by decide +kernel
theorem dX3_digest_126 : decode cX3_digest 126 = .ok (.iconst 5, 1) := by decide +kernel
theorem dX3_digest_127 : decode cX3_digest 127 = .ok (.if_icmp .ge 24, 3) := by decide +kernel
theorem dX3_digest_130 : decode cX3_digest 130 = .ok (.aload_n 0, 1) := by decide +kernel
theorem dX3_digest_131 : decode cX3_digest 131 = .ok (.aload_n 0, 1) := by decide +kernel
theorem dX3_digest_132 : decode cX3_digest 132 = .ok (.getfield 16, 3) := by decide +kernel
theorem dX3_digest_135 : decode cX3_digest 135 = .ok (.iconst 5, 1) := by decide +kernel
theorem dX3_digest_136 : decode cX3_digest 136 = .ok (.iload_n 1, 1) := by decide +kernel
theorem dX3_digest_137 : decode cX3_digest 137 = .ok (.imul, 1) := by decide +kernel
theorem dX3_digest_138 : decode cX3_digest 138 = .ok (.iload_n 2, 1) := by decide +kernel
theorem dX3_digest_139 : decode cX3_digest 139 = .ok (.iadd, 1) := by decide +kernel
theorem dX3_digest_140 : decode cX3_digest 140 = .ok (.iaload, 1) := by decide +kernel
theorem dX3_digest_141 : decode cX3_digest 141 = .ok (.i2l, 1) := by decide +kernel
theorem dX3_digest_142 : decode cX3_digest 142 = .ok (.invokevirtual 216, 3) := by decide +kernel
theorem dX3_digest_145 : decode cX3_digest 145 = .ok (.iinc 2 1, 3) := by decide +kernel
theorem dX3_digest_148 : decode cX3_digest 148 = .ok (.goto (-23), 3) := by decide +kernel
theorem dX3_digest_151 : decode cX3_digest 151 = .ok (.iinc 1 1, 3) := by decide +kernel
theorem dX3_digest_154 : decode cX3_digest 154 = .ok (.goto (-39), 3) := by decide +kernel
theorem dX3_digest_157 : decode cX3_digest 157 = .ok (.iconst 0, 1) := by decide +kernel
theorem dX3_digest_158 : decode cX3_digest 158 = .ok (.istore_n 1, 1) := by decide +kernel
theorem dX3_digest_159 : decode cX3_digest 159 = .ok (.iload_n 1, 1) := by decide +kernel
theorem dX3_digest_160 : decode cX3_digest 160 = .ok (.aload_n 0, 1) := by decide +kernel
theorem dX3_digest_161 : decode cX3_digest 161 = .ok (.getfield 53, 3) := by decide +kernel
theorem dX3_digest_164 : decode cX3_digest 164 = .ok (.if_icmp .ge 20, 3) := by decide +kernel
theorem dX3_digest_167 : decode cX3_digest 167 = .ok (.aload_n 0, 1) := by decide +kernel
theorem dX3_digest_168 : decode cX3_digest 168 = .ok (.aload_n 0, 1) := by decide +kernel
theorem dX3_digest_169 : decode cX3_digest 169 = .ok (.getfield 7, 3) := by decide +kernel
theorem dX3_digest_172 : decode cX3_digest 172 = .ok (.iload_n 1, 1) := by decide +kernel
theorem dX3_digest_173 : decode cX3_digest 173 = .ok (.iaload, 1) := by decide +kernel
theorem dX3_digest_174 : decode cX3_digest 174 = .ok (.i2l, 1) := by decide +kernel
theorem dX3_digest_175 : decode cX3_digest 175 = .ok (.invokevirtual 216, 3) := by decide +kernel
theorem dX3_digest_178 : decode cX3_digest 178 = .ok (.iinc 1 1, 3) := by decide +kernel
theorem dX3_digest_181 : decode cX3_digest 181 = .ok (.goto (-22), 3) := by decide +kernel
theorem dX3_digest_184 : decode cX3_digest 184 = .ok (.iconst 0, 1) := by decide +kernel
theorem dX3_digest_185 : decode cX3_digest 185 = .ok (.istore_n 1, 1) := by decide +kernel
theorem dX3_digest_186 : decode cX3_digest 186 = .ok (.iload_n 1, 1) := by decide +kernel
theorem dX3_digest_187 : decode cX3_digest 187 = .ok (.bipush 12, 2) := by decide +kernel
theorem dX3_digest_189 : decode cX3_digest 189 = .ok (.if_icmp .ge 19, 3) := by decide +kernel
theorem dX3_digest_192 : decode cX3_digest 192 = .ok (.aload_n 0, 1) := by decide +kernel
theorem dX3_digest_193 : decode cX3_digest 193 = .ok (.aload_n 0, 1) := by decide +kernel
theorem dX3_digest_194 : decode cX3_digest 194 = .ok (.iload_n 1, 1) := by decide +kernel
theorem dX3_digest_195 : decode cX3_digest 195 = .ok (.invokevirtual 205, 3) := by decide +kernel
theorem dX3_digest_198 : decode cX3_digest 198 = .ok (.i2l, 1) := by decide +kernel
theorem dX3_digest_199 : decode cX3_digest 199 = .ok (.invokevirtual 216, 3) := by decide +kernel
theorem dX3_digest_202 : decode cX3_digest 202 = .ok (.iinc 1 1, 3) := by decide +kernel
theorem dX3_digest_205 : decode cX3_digest 205 = .ok (.goto (-19), 3) := by decide +kernel
theorem dX3_digest_208 : decode cX3_digest 208 = .ok (.aload_n 0, 1) := by decide +kernel
theorem dX3_digest_209 : decode cX3_digest 209 = .ok (.getfield 210, 3) := by decide +kernel
theorem dX3_digest_212 : decode cX3_digest 212 = .ok (.lreturn, 1) := by decide +kernel
