theorem dX3_init_0 : decode cX3_init 0 = .ok (.aload_n 0, 1) := by decide +kernel
theorem dX3_init_1 : decode cX3_init 1 = .ok (.invokespecial 1, 3) := by decide +kernel
theorem dX3_init_4 : decode cX3_init 4 = .ok (.aload_n 0, 1) := by decide +kernel
theorem dX3_init_5 : decode cX3_init 5 = .ok (.bipush 8, 2) := by decide +kernel
theorem dX3_init_7 : decode cX3_init 7 = .ok (.newarray .int, 2) := by decide +kernel
theorem dX3_init_9 : decode cX3_init 9 = .ok (.putfield 7, 3) := by decide +kernel
theorem dX3_init_12 : decode cX3_init 12 = .ok (.aload_n 0, 1) := by decide +kernel
theorem dX3_init_13 : decode cX3_init 13 = .ok (.bipush 16, 2) := by decide +kernel
theorem dX3_init_15 : decode cX3_init 15 = .ok (.newarray .int, 2) := by decide +kernel
theorem dX3_init_17 : decode cX3_init 17 = .ok (.putfield 13, 3) := by decide +kernel
theorem dX3_init_20 : decode cX3_init 20 = .ok (.aload_n 0, 1) := by decide +kernel
theorem dX3_init_21 : decode cX3_init 21 = .ok (.bipush 30, 2) := by decide +kernel
theorem dX3_init_23 : decode cX3_init 23 = .ok (.newarray .int, 2) := by decide +kernel
theorem dX3_init_25 : decode cX3_init 25 = .ok (.putfield 16, 3) := by decide +kernel
theorem dX3_init_28 : decode cX3_init 28 = .ok (.aload_n 0, 1) := by decide +kernel
theorem dX3_init_29 : decode cX3_init 29 = .ok (.bipush 16, 2) := by decide +kernel
theorem dX3_init_31 : decode cX3_init 31 = .ok (.newarray .int, 2) := by decide +kernel
theorem dX3_init_33 : decode cX3_init 33 = .ok (.putfield 19, 3) := by decide +kernel
theorem dX3_init_36 : decode cX3_init 36 = .ok (.aload_n 0, 1) := by decide +kernel
theorem dX3_init_37 : decode cX3_init 37 = .ok (.bipush 30, 2) := by decide +kernel
theorem dX3_init_39 : decode cX3_init 39 = .ok (.newarray .int, 2) := by decide +kernel
theorem dX3_init_41 : decode cX3_init 41 = .ok (.putfield 22, 3) := by decide +kernel
theorem dX3_init_44 : decode cX3_init 44 = .ok (.aload_n 0, 1) := by decide +kernel
theorem dX3_init_45 : decode cX3_init 45 = .ok (.bipush 16, 2) := by decide +kernel
theorem dX3_init_47 : decode cX3_init 47 = .ok (.newarray .int, 2) := by decide +kernel
theorem dX3_init_49 : decode cX3_init 49 = .ok (.putfield 25, 3) := by decide +kernel
theorem dX3_init_52 : decode cX3_init 52 = .ok (.aload_n 0, 1) := by decide +kernel
theorem dX3_init_53 : decode cX3_init 53 = .ok (.bipush 30, 2) := by decide +kernel
theorem dX3_init_55 : decode cX3_init 55 = .ok (.newarray .int, 2) := by decide +kernel
theorem dX3_init_57 : decode cX3_init 57 = .ok (.putfield 28, 3) := by decide +kernel
theorem dX3_init_60 : decode cX3_init 60 = .ok (.aload_n 0, 1) := by decide +kernel
theorem dX3_init_61 : decode cX3_init 61 = .ok (.iconst 4, 1) := by decide +kernel
theorem dX3_init_62 : decode cX3_init 62 = .ok (.newarray .int, 2) := by decide +kernel
theorem dX3_init_64 : decode cX3_init 64 = .ok (.putfield 31, 3) := by decide +kernel
theorem dX3_init_67 : decode cX3_init 67 = .ok (.aload_n 0, 1) := by decide +kernel
theorem dX3_init_68 : decode cX3_init 68 = .ok (.iconst 1, 1) := by decide +kernel
theorem dX3_init_69 : decode cX3_init 69 = .ok (.putfield 34, 3) := by decide +kernel
theorem dX3_init_72 : decode cX3_init 72 = .ok (.aload_n 0, 1) := by decide +kernel
theorem dX3_init_73 : decode cX3_init 73 = .ok (.iconst 1, 1) := by decide +kernel
theorem dX3_init_74 : decode cX3_init 74 = .ok (.putfield 38, 3) := by decide +kernel
theorem dX3_init_77 : decode cX3_init 77 = .ok (.aload_n 0, 1) := by decide +kernel
theorem dX3_init_78 : decode cX3_init 78 = .ok (.iconst 1, 1) := by decide +kernel
theorem dX3_init_79 : decode cX3_init 79 = .ok (.putfield 41, 3) := by decide +kernel
theorem dX3_init_82 : decode cX3_init 82 = .ok (.aload_n 0, 1) := by decide +kernel
theorem dX3_init_83 : decode cX3_init 83 = .ok (.iconst (-1), 1) := by decide +kernel
theorem dX3_init_84 : decode cX3_init 84 = .ok (.putfield 44, 3) := by decide +kernel
theorem dX3_init_87 : decode cX3_init 87 = .ok (.return_, 1) := by decide +kernel
theorem dX3_in_0 : decode cX3_in 0 = .ok (.lload_n 0, 1) := by decide +kernel
theorem dX3_in_1 : decode cX3_in 1 = .ok (.lload_n 2, 1) := by decide +kernel
theorem dX3_in_2 : decode cX3_in 2 = .ok (.lcmp, 1) := by decide +kernel
theorem dX3_in_3 : decode cX3_in 3 = .ok (.ifCond .lt 14, 3) := by decide +kernel
theorem dX3_in_6 : decode cX3_in 6 = .ok (.lload_n 0, 1) := by decide +kernel
theorem dX3_in_7 : decode cX3_in 7 = .ok (.lload 4, 2) := by decide +kernel
theorem dX3_in_9 : decode cX3_in 9 = .ok (.lcmp, 1) := by decide +kernel
theorem dX3_in_10 : decode cX3_in 10 = .ok (.ifCond .gt 7, 3) := by decide +kernel
theorem dX3_in_13 : decode cX3_in 13 = .ok (.iconst 1, 1) := by decide +kernel
theorem dX3_in_14 : decode cX3_in 14 = .ok (.goto 4, 3) := by decide +kernel
theorem dX3_in_17 : decode cX3_in 17 = .ok (.iconst 0, 1) := by decide +kernel
theorem dX3_in_18 : decode cX3_in 18 = .ok (.ireturn, 1) := by decide +kernel
set_option maxRecDepth 20000 in
theorem ggX3_letter_X3_in : GoodIn wsX3_letter wsX3_in := goodIn_r _ [7] (by decide +kernel) (by decide +kernel)
set_option maxRecDepth 20000 in
theorem gX3_letter_X3_in : GoodIn wsX3_letter (va_wsS RX3 49 yX3_in wsX3_in) := goodIn_app (goodIn_of _ (by decide +kernel)) ggX3_letter_X3_in
theorem dX3_letter_0 : decode cX3_letter 0 = .ok (.iload_n 1, 1) := by decide +kernel
theorem dX3_letter_1 : decode cX3_letter 1 = .ok (.i2l, 1) := by decide +kernel
theorem dX3_letter_2 : decode cX3_letter 2 = .ok (.lconst 1, 1) := by decide +kernel
theorem dX3_letter_3 : decode cX3_letter 3 = .ok (.ldc2_w 47, 3) := by decide +kernel
theorem dX3_letter_6 : decode cX3_letter 6 = .ok (.invokestatic 49, 3) := by decide +kernel
theorem dX3_letter_9 : decode cX3_letter 9 = .ok (.ifCond .ne 6, 3) := by decide +kernel
theorem dX3_letter_12 : decode cX3_letter 12 = .ok (.bipush (-102), 2) := by decide +kernel
theorem dX3_letter_14 : decode cX3_letter 14 = .ok (.ireturn, 1) := by decide +kernel
theorem dX3_letter_15 : decode cX3_letter 15 = .ok (.aload_n 0, 1) := by decide +kernel
theorem dX3_letter_16 : decode cX3_letter 16 = .ok (.getfield 53, 3) := by decide +kernel
theorem dX3_letter_19 : decode cX3_letter 19 = .ok (.bipush 8, 2) := by decide +kernel
theorem dX3_letter_21 : decode cX3_letter 21 = .ok (.if_icmp .ne 6, 3) := by decide +kernel
theorem dX3_letter_24 : decode cX3_letter 24 = .ok (.bipush (-104), 2) := by decide +kernel
theorem dX3_letter_26 : decode cX3_letter 26 = .ok (.ireturn, 1) := by decide +kernel
theorem dX3_letter_27 : decode cX3_letter 27 = .ok (.aload_n 0, 1) := by decide +kernel
theorem dX3_letter_28 : decode cX3_letter 28 = .ok (.getfield 7, 3) := by decide +kernel
theorem dX3_letter_31 : decode cX3_letter 31 = .ok (.aload_n 0, 1) := by decide +kernel
theorem dX3_letter_32 : decode cX3_letter 32 = .ok (.getfield 53, 3) := by decide +kernel
theorem dX3_letter_35 : decode cX3_letter 35 = .ok (.iload_n 1, 1) := by decide +kernel
theorem dX3_letter_36 : decode cX3_letter 36 = .ok (.iastore, 1) := by decide +kernel
theorem dX3_letter_37 : decode cX3_letter 37 = .ok (.aload_n 0, 1) := by decide +kernel
theorem dX3_letter_38 : decode cX3_letter 38 = .ok (.dup, 1) := by decide +kernel
theorem dX3_letter_39 : decode cX3_letter 39 = .ok (.getfield 53, 3) := by decide +kernel
theorem dX3_letter_42 : decode cX3_letter 42 = .ok (.iconst 1, 1) := by decide +kernel
theorem dX3_letter_43 : decode cX3_letter 43 = .ok (.iadd, 1) := by decide +kernel
theorem dX3_letter_44 : decode cX3_letter 44 = .ok (.putfield 53, 3) := by decide +kernel
theorem dX3_letter_47 : decode cX3_letter 47 = .ok (.aload_n 0, 1) := by decide +kernel
theorem dX3_letter_48 : decode cX3_letter 48 = .ok (.getfield 53, 3) := by decide +kernel
theorem dX3_letter_51 : decode cX3_letter 51 = .ok (.ireturn, 1) := by decide +kernel
theorem dX3_blank_0 : decode cX3_blank 0 = .ok (.aload_n 0, 1) := by decide +kernel
theorem dX3_blank_1 : decode cX3_blank 1 = .ok (.getfield 53, 3) := by decide +kernel
theorem dX3_blank_4 : decode cX3_blank 4 = .ok (.istore_n 1, 1) := by decide +kernel
theorem dX3_blank_5 : decode cX3_blank 5 = .ok (.aload_n 0, 1) := by decide +kernel
theorem dX3_blank_6 : decode cX3_blank 6 = .ok (.iconst 0, 1) := by decide +kernel
theorem dX3_blank_7 : decode cX3_blank 7 = .ok (.putfield 53, 3) := by decide +kernel
theorem dX3_blank_10 : decode cX3_blank 10 = .ok (.iload_n 1, 1) := by decide +kernel
theorem dX3_blank_11 : decode cX3_blank 11 = .ok (.ireturn, 1) := by decide +kernel
set_option maxRecDepth 20000 in
theorem ggX3_isGood_X3_in : GoodIn wsX3_isGood wsX3_in := goodIn_r _ [7] (by decide +kernel) (by decide +kernel)
set_option maxRecDepth 20000 in
theorem gX3_isGood_X3_in : GoodIn wsX3_isGood (va_wsS RX3 49 yX3_in wsX3_in) := goodIn_app (goodIn_of _ (by decide +kernel)) ggX3_isGood_X3_in
theorem dX3_isGood_0 : decode cX3_isGood 0 = .ok (.iload_n 1, 1) := by decide +kernel
theorem dX3_isGood_1 : decode cX3_isGood 1 = .ok (.bipush 48, 2) := by decide +kernel
theorem dX3_isGood_3 : decode cX3_isGood 3 = .ok (.isub, 1) := by decide +kernel
theorem dX3_isGood_4 : decode cX3_isGood 4 = .ok (.istore_n 2, 1) := by decide +kernel
theorem dX3_isGood_5 : decode cX3_isGood 5 = .ok (.iload_n 0, 1) := by decide +kernel
theorem dX3_isGood_6 : decode cX3_isGood 6 = .ok (.iconst 2, 1) := by decide +kernel
theorem dX3_isGood_7 : decode cX3_isGood 7 = .ok (.if_icmp .ge 15, 3) := by decide +kernel
theorem dX3_isGood_10 : decode cX3_isGood 10 = .ok (.iload_n 2, 1) := by decide +kernel
theorem dX3_isGood_11 : decode cX3_isGood 11 = .ok (.i2l, 1) := by decide +kernel
theorem dX3_isGood_12 : decode cX3_isGood 12 = .ok (.lconst 0, 1) := by decide +kernel
theorem dX3_isGood_13 : decode cX3_isGood 13 = .ok (.ldc2_w 56, 3) := by decide +kernel
theorem dX3_isGood_16 : decode cX3_isGood 16 = .ok (.invokestatic 49, 3) := by decide +kernel
theorem dX3_isGood_19 : decode cX3_isGood 19 = .ok (.goto 61, 3) := by decide +kernel
theorem dX3_isGood_22 : decode cX3_isGood 22 = .ok (.iload_n 0, 1) := by decide +kernel
theorem dX3_isGood_23 : decode cX3_isGood 23 = .ok (.iconst 2, 1) := by decide +kernel
theorem dX3_isGood_24 : decode cX3_isGood 24 = .ok (.if_icmp .ne 15, 3) := by decide +kernel
theorem dX3_isGood_27 : decode cX3_isGood 27 = .ok (.iload_n 2, 1) := by decide +kernel
theorem dX3_isGood_28 : decode cX3_isGood 28 = .ok (.i2l, 1) := by decide +kernel
theorem dX3_isGood_29 : decode cX3_isGood 29 = .ok (.lconst 0, 1) := by decide +kernel
theorem dX3_isGood_30 : decode cX3_isGood 30 = .ok (.ldc2_w 58, 3) := by decide +kernel
theorem dX3_isGood_33 : decode cX3_isGood 33 = .ok (.invokestatic 49, 3) := by decide +kernel
theorem dX3_isGood_36 : decode cX3_isGood 36 = .ok (.goto 44, 3) := by decide +kernel
theorem dX3_isGood_39 : decode cX3_isGood 39 = .ok (.iload_n 0, 1) := by decide +kernel
theorem dX3_isGood_40 : decode cX3_isGood 40 = .ok (.iconst 3, 1) := by decide +kernel
theorem dX3_isGood_41 : decode cX3_isGood 41 = .ok (.if_icmp .ne 17, 3) := by decide +kernel
theorem dX3_isGood_44 : decode cX3_isGood 44 = .ok (.iload_n 1, 1) := by decide +kernel
theorem dX3_isGood_45 : decode cX3_isGood 45 = .ok (.bipush 59, 2) := by decide +kernel
theorem dX3_isGood_47 : decode cX3_isGood 47 = .ok (.if_icmp .ne 7, 3) := by decide +kernel
theorem dX3_isGood_50 : decode cX3_isGood 50 = .ok (.iconst 1, 1) := by decide +kernel
theorem dX3_isGood_51 : decode cX3_isGood 51 = .ok (.goto 29, 3) := by decide +kernel
theorem dX3_isGood_54 : decode cX3_isGood 54 = .ok (.iconst 0, 1) := by decide +kernel
theorem dX3_isGood_55 : decode cX3_isGood 55 = .ok (.goto 25, 3) := by decide +kernel
theorem dX3_isGood_58 : decode cX3_isGood 58 = .ok (.iload_n 0, 1) := by decide +kernel
theorem dX3_isGood_59 : decode cX3_isGood 59 = .ok (.iconst 4, 1) := by decide +kernel
theorem dX3_isGood_60 : decode cX3_isGood 60 = .ok (.if_icmp .ne 19, 3) := by decide +kernel
theorem dX3_isGood_63 : decode cX3_isGood 63 = .ok (.iload_n 2, 1) := by decide +kernel
theorem dX3_isGood_64 : decode cX3_isGood 64 = .ok (.i2l, 1) := by decide +kernel
theorem dX3_isGood_65 : decode cX3_isGood 65 = .ok (.lconst 0, 1) := by decide +kernel
theorem dX3_isGood_66 : decode cX3_isGood 66 = .ok (.ldc2_w 60, 3) := by decide +kernel
theorem dX3_isGood_69 : decode cX3_isGood 69 = .ok (.invokestatic 49, 3) := by decide +kernel
theorem dX3_isGood_72 : decode cX3_isGood 72 = .ok (.ifCond .eq 7, 3) := by decide +kernel
theorem dX3_isGood_75 : decode cX3_isGood 75 = .ok (.iconst 1, 1) := by decide +kernel
theorem dX3_isGood_76 : decode cX3_isGood 76 = .ok (.goto 4, 3) := by decide +kernel
theorem dX3_isGood_79 : decode cX3_isGood 79 = .ok (.iconst 0, 1) := by decide +kernel
theorem dX3_isGood_80 : decode cX3_isGood 80 = .ok (.ireturn, 1) := by decide +kernel
set_option maxRecDepth 20000 in
theorem ggX3_faultOf_X3_isGood : GoodIn wsX3_faultOf wsX3_isGood := goodIn_r _ [6, 7, 8, 9, 10, 11, 5, 12] (by decide +kernel) (by decide +kernel)
set_option maxRecDepth 20000 in
theorem gX3_faultOf_X3_isGood : GoodIn wsX3_faultOf (va_wsS RX3 62 yX3_isGood wsX3_isGood) := goodIn_app (goodIn_of _ (by decide +kernel)) ggX3_faultOf_X3_isGood
theorem dX3_faultOf_0 : decode cX3_faultOf 0 = .ok (.iconst 0, 1) := by decide +kernel
theorem dX3_faultOf_1 : decode cX3_faultOf 1 = .ok (.istore_n 1, 1) := by decide +kernel
theorem dX3_faultOf_2 : decode cX3_faultOf 2 = .ok (.iload_n 1, 1) := by decide +kernel
theorem dX3_faultOf_3 : decode cX3_faultOf 3 = .ok (.aload_n 0, 1) := by decide +kernel
theorem dX3_faultOf_4 : decode cX3_faultOf 4 = .ok (.getfield 53, 3) := by decide +kernel
theorem dX3_faultOf_7 : decode cX3_faultOf 7 = .ok (.if_icmp .ge 22, 3) := by decide +kernel
theorem dX3_faultOf_10 : decode cX3_faultOf 10 = .ok (.iload_n 1, 1) := by decide +kernel
theorem dX3_faultOf_11 : decode cX3_faultOf 11 = .ok (.aload_n 0, 1) := by decide +kernel
theorem dX3_faultOf_12 : decode cX3_faultOf 12 = .ok (.getfield 7, 3) := by decide +kernel
theorem dX3_faultOf_15 : decode cX3_faultOf 15 = .ok (.iload_n 1, 1) := by decide +kernel
theorem dX3_faultOf_16 : decode cX3_faultOf 16 = .ok (.iaload, 1) := by decide +kernel
theorem dX3_faultOf_17 : decode cX3_faultOf 17 = .ok (.invokestatic 62, 3) := by decide +kernel
theorem dX3_faultOf_20 : decode cX3_faultOf 20 = .ok (.ifCond .eq 9, 3) := by decide +kernel
theorem dX3_faultOf_23 : decode cX3_faultOf 23 = .ok (.iinc 1 1, 3) := by decide +kernel
theorem dX3_faultOf_26 : decode cX3_faultOf 26 = .ok (.goto (-24), 3) := by decide +kernel
theorem dX3_faultOf_29 : decode cX3_faultOf 29 = .ok (.iload_n 1, 1) := by decide +kernel
theorem dX3_faultOf_30 : decode cX3_faultOf 30 = .ok (.ireturn, 1) := by decide +kernel
set_option maxRecDepth 20000 in
theorem ggX3_fault_X3_faultOf : GoodIn wsX3_fault wsX3_faultOf := goodIn_r _ [5, 6, 7, 8, 9, 4, 10, 11, 12, 13, 14, 15, 16, 17, 18, 19, 20, 21, 22, 23, 24, 25, 26, 27, 28, 29, 30, 31, 32, 33, 34, 35, 36, 37, 38, 39, 40] (by decide +kernel) (by decide +kernel)
set_option maxRecDepth 20000 in
theorem gX3_fault_X3_faultOf : GoodIn wsX3_fault (wsV RX3 66 RX3 yX3_faultOf wsX3_faultOf) := goodIn_app (goodIn_of _ (by decide +kernel)) ggX3_fault_X3_faultOf
theorem dX3_fault_0 : decode cX3_fault 0 = .ok (.aload_n 0, 1) := by decide +kernel
theorem dX3_fault_1 : decode cX3_fault 1 = .ok (.invokevirtual 66, 3) := by decide +kernel
theorem dX3_fault_4 : decode cX3_fault 4 = .ok (.ireturn, 1) := by decide +kernel
set_option maxRecDepth 20000 in
theorem ggX3_law_X3_faultOf : GoodIn wsX3_law wsX3_faultOf := goodIn_r _ [12, 1, 2, 13, 14, 11, 15, 16, 17, 18, 19, 20, 21, 22, 23, 24, 25, 26, 27, 28, 29, 30, 31, 32, 33, 34, 35, 36, 37, 38, 39, 40, 41, 42, 43, 44, 45] (by decide +kernel) (by decide +kernel)
set_option maxRecDepth 20000 in
theorem gX3_law_X3_faultOf : GoodIn wsX3_law (wsV RX3 66 RX3 yX3_faultOf wsX3_faultOf) := goodIn_app (goodIn_of _ (by decide +kernel)) ggX3_law_X3_faultOf
theorem dX3_law_0 : decode cX3_law 0 = .ok (.aload_n 0, 1) := by decide +kernel
theorem dX3_law_1 : decode cX3_law 1 = .ok (.getfield 53, 3) := by decide +kernel
theorem dX3_law_4 : decode cX3_law 4 = .ok (.iconst 5, 1) := by decide +kernel
theorem dX3_law_5 : decode cX3_law 5 = .ok (.if_icmp .ne 11, 3) := by decide +kernel
theorem dX3_law_8 : decode cX3_law 8 = .ok (.aload_n 0, 1) := by decide +kernel
theorem dX3_law_9 : decode cX3_law 9 = .ok (.invokevirtual 66, 3) := by decide +kernel
theorem dX3_law_12 : decode cX3_law 12 = .ok (.iconst 5, 1) := by decide +kernel
theorem dX3_law_13 : decode cX3_law 13 = .ok (.if_icmp .ge 6, 3) := by decide +kernel
theorem dX3_law_16 : decode cX3_law 16 = .ok (.bipush (-103), 2) := by decide +kernel
theorem dX3_law_18 : decode cX3_law 18 = .ok (.ireturn, 1) := by decide +kernel
theorem dX3_law_19 : decode cX3_law 19 = .ok (.aload_n 0, 1) := by decide +kernel
theorem dX3_law_20 : decode cX3_law 20 = .ok (.aload_n 0, 1) := by decide +kernel
theorem dX3_law_21 : decode cX3_law 21 = .ok (.getfield 7, 3) := by decide +kernel
theorem dX3_law_24 : decode cX3_law 24 = .ok (.iconst 0, 1) := by decide +kernel
theorem dX3_law_25 : decode cX3_law 25 = .ok (.iaload, 1) := by decide +kernel
theorem dX3_law_26 : decode cX3_law 26 = .ok (.bipush 48, 2) := by decide +kernel
theorem dX3_law_28 : decode cX3_law 28 = .ok (.isub, 1) := by decide +kernel
theorem dX3_law_29 : decode cX3_law 29 = .ok (.putfield 34, 3) := by decide +kernel
theorem dX3_law_32 : decode cX3_law 32 = .ok (.aload_n 0, 1) := by decide +kernel
theorem dX3_law_33 : decode cX3_law 33 = .ok (.aload_n 0, 1) := by decide +kernel
theorem dX3_law_34 : decode cX3_law 34 = .ok (.getfield 7, 3) := by decide +kernel
theorem dX3_law_37 : decode cX3_law 37 = .ok (.iconst 1, 1) := by decide +kernel
theorem dX3_law_38 : decode cX3_law 38 = .ok (.iaload, 1) := by decide +kernel
theorem dX3_law_39 : decode cX3_law 39 = .ok (.bipush 48, 2) := by decide +kernel
theorem dX3_law_41 : decode cX3_law 41 = .ok (.isub, 1) := by decide +kernel
theorem dX3_law_42 : decode cX3_law 42 = .ok (.putfield 38, 3) := by decide +kernel
theorem dX3_law_45 : decode cX3_law 45 = .ok (.aload_n 0, 1) := by decide +kernel
theorem dX3_law_46 : decode cX3_law 46 = .ok (.aload_n 0, 1) := by decide +kernel
theorem dX3_law_47 : decode cX3_law 47 = .ok (.getfield 7, 3) := by decide +kernel
theorem dX3_law_50 : decode cX3_law 50 = .ok (.iconst 2, 1) := by decide +kernel
theorem dX3_law_51 : decode cX3_law 51 = .ok (.iaload, 1) := by decide +kernel
theorem dX3_law_52 : decode cX3_law 52 = .ok (.bipush 48, 2) := by decide +kernel
theorem dX3_law_54 : decode cX3_law 54 = .ok (.isub, 1) := by decide +kernel
theorem dX3_law_55 : decode cX3_law 55 = .ok (.putfield 41, 3) := by decide +kernel
theorem dX3_law_58 : decode cX3_law 58 = .ok (.aload_n 0, 1) := by decide +kernel
theorem dX3_law_59 : decode cX3_law 59 = .ok (.aload_n 0, 1) := by decide +kernel
theorem dX3_law_60 : decode cX3_law 60 = .ok (.getfield 7, 3) := by decide +kernel
theorem dX3_law_63 : decode cX3_law 63 = .ok (.iconst 4, 1) := by decide +kernel
theorem dX3_law_64 : decode cX3_law 64 = .ok (.iaload, 1) := by decide +kernel
theorem dX3_law_65 : decode cX3_law 65 = .ok (.bipush 48, 2) := by decide +kernel
theorem dX3_law_67 : decode cX3_law 67 = .ok (.isub, 1) := by decide +kernel
theorem dX3_law_68 : decode cX3_law 68 = .ok (.putfield 70, 3) := by decide +kernel
theorem dX3_law_71 : decode cX3_law 71 = .ok (.aload_n 0, 1) := by decide +kernel
theorem dX3_law_72 : decode cX3_law 72 = .ok (.dup, 1) := by decide +kernel
theorem dX3_law_73 : decode cX3_law 73 = .ok (.getfield 73, 3) := by decide +kernel
theorem dX3_law_76 : decode cX3_law 76 = .ok (.iconst 1, 1) := by decide +kernel
theorem dX3_law_77 : decode cX3_law 77 = .ok (.iadd, 1) := by decide +kernel
theorem dX3_law_78 : decode cX3_law 78 = .ok (.putfield 73, 3) := by decide +kernel
theorem dX3_law_81 : decode cX3_law 81 = .ok (.aload_n 0, 1) := by decide +kernel
theorem dX3_law_82 : decode cX3_law 82 = .ok (.iconst 0, 1) := by decide +kernel
theorem dX3_law_83 : decode cX3_law 83 = .ok (.putfield 53, 3) := by decide +kernel
theorem dX3_law_86 : decode cX3_law 86 = .ok (.aload_n 0, 1) := by decide +kernel
theorem dX3_law_87 : decode cX3_law 87 = .ok (.getfield 73, 3) := by decide +kernel
theorem dX3_law_90 : decode cX3_law 90 = .ok (.ireturn, 1) := by decide +kernel
set_option maxRecDepth 20000 in
theorem ggX3_isHolder_X3_in : GoodIn wsX3_isHolder wsX3_in := goodIn_r _ [5] (by decide +kernel) (by decide +kernel)
set_option maxRecDepth 20000 in
theorem gX3_isHolder_X3_in : GoodIn wsX3_isHolder (va_wsS RX3 49 yX3_in wsX3_in) := goodIn_app (goodIn_of _ (by decide +kernel)) ggX3_isHolder_X3_in
theorem dX3_isHolder_0 : decode cX3_isHolder 0 = .ok (.iload_n 1, 1) := by decide +kernel
theorem dX3_isHolder_1 : decode cX3_isHolder 1 = .ok (.i2l, 1) := by decide +kernel
theorem dX3_isHolder_2 : decode cX3_isHolder 2 = .ok (.lconst 0, 1) := by decide +kernel
theorem dX3_isHolder_3 : decode cX3_isHolder 3 = .ok (.aload_n 0, 1) := by decide +kernel
theorem dX3_isHolder_4 : decode cX3_isHolder 4 = .ok (.getfield 76, 3) := by decide +kernel
theorem dX3_isHolder_7 : decode cX3_isHolder 7 = .ok (.iconst 1, 1) := by decide +kernel
theorem dX3_isHolder_8 : decode cX3_isHolder 8 = .ok (.isub, 1) := by decide +kernel
theorem dX3_isHolder_9 : decode cX3_isHolder 9 = .ok (.i2l, 1) := by decide +kernel
theorem dX3_isHolder_10 : decode cX3_isHolder 10 = .ok (.invokestatic 49, 3) := by decide +kernel
theorem dX3_isHolder_13 : decode cX3_isHolder 13 = .ok (.ireturn, 1) := by decide +kernel
set_option maxRecDepth 20000 in
theorem ggX3_isBeast_X3_in : GoodIn wsX3_isBeast wsX3_in := goodIn_r _ [5] (by decide +kernel) (by decide +kernel)
set_option maxRecDepth 20000 in
theorem gX3_isBeast_X3_in : GoodIn wsX3_isBeast (va_wsS RX3 49 yX3_in wsX3_in) := goodIn_app (goodIn_of _ (by decide +kernel)) ggX3_isBeast_X3_in
theorem dX3_isBeast_0 : decode cX3_isBeast 0 = .ok (.iload_n 1, 1) := by decide +kernel
theorem dX3_isBeast_1 : decode cX3_isBeast 1 = .ok (.i2l, 1) := by decide +kernel
theorem dX3_isBeast_2 : decode cX3_isBeast 2 = .ok (.lconst 0, 1) := by decide +kernel
theorem dX3_isBeast_3 : decode cX3_isBeast 3 = .ok (.aload_n 0, 1) := by decide +kernel
theorem dX3_isBeast_4 : decode cX3_isBeast 4 = .ok (.getfield 79, 3) := by decide +kernel
theorem dX3_isBeast_7 : decode cX3_isBeast 7 = .ok (.iconst 1, 1) := by decide +kernel
theorem dX3_isBeast_8 : decode cX3_isBeast 8 = .ok (.isub, 1) := by decide +kernel
theorem dX3_isBeast_9 : decode cX3_isBeast 9 = .ok (.i2l, 1) := by decide +kernel
theorem dX3_isBeast_10 : decode cX3_isBeast 10 = .ok (.invokestatic 49, 3) := by decide +kernel
theorem dX3_isBeast_13 : decode cX3_isBeast 13 = .ok (.ireturn, 1) := by decide +kernel
theorem dX3_lives_0 : decode cX3_lives 0 = .ok (.aload_n 0, 1) := by decide +kernel
theorem dX3_lives_1 : decode cX3_lives 1 = .ok (.getfield 13, 3) := by decide +kernel
theorem dX3_lives_4 : decode cX3_lives 4 = .ok (.iconst 4, 1) := by decide +kernel
theorem dX3_lives_5 : decode cX3_lives 5 = .ok (.iload_n 1, 1) := by decide +kernel
theorem dX3_lives_6 : decode cX3_lives 6 = .ok (.imul, 1) := by decide +kernel
theorem dX3_lives_7 : decode cX3_lives 7 = .ok (.iconst 2, 1) := by decide +kernel
theorem dX3_lives_8 : decode cX3_lives 8 = .ok (.iadd, 1) := by decide +kernel
theorem dX3_lives_9 : decode cX3_lives 9 = .ok (.iaload, 1) := by decide +kernel
theorem dX3_lives_10 : decode cX3_lives 10 = .ok (.iconst 1, 1) := by decide +kernel
theorem dX3_lives_11 : decode cX3_lives 11 = .ok (.if_icmp .ne 7, 3) := by decide +kernel
theorem dX3_lives_14 : decode cX3_lives 14 = .ok (.iconst 1, 1) := by decide +kernel
theorem dX3_lives_15 : decode cX3_lives 15 = .ok (.goto 4, 3) := by decide +kernel
theorem dX3_lives_18 : decode cX3_lives 18 = .ok (.iconst 0, 1) := by decide +kernel
theorem dX3_lives_19 : decode cX3_lives 19 = .ok (.ireturn, 1) := by decide +kernel
set_option maxRecDepth 20000 in
theorem ggX3_holder_X3_in : GoodIn wsX3_holder wsX3_in := goodIn_r _ [8] (by decide +kernel) (by decide +kernel)
set_option maxRecDepth 20000 in
theorem gX3_holder_X3_in : GoodIn wsX3_holder (va_wsS RX3 49 yX3_in wsX3_in) := goodIn_app (goodIn_of _ (by decide +kernel)) ggX3_holder_X3_in
theorem dX3_holder_0 : decode cX3_holder 0 = .ok (.iload_n 1, 1) := by decide +kernel
theorem dX3_holder_1 : decode cX3_holder 1 = .ok (.i2l, 1) := by decide +kernel
theorem dX3_holder_2 : decode cX3_holder 2 = .ok (.lconst 0, 1) := by decide +kernel
theorem dX3_holder_3 : decode cX3_holder 3 = .ok (.ldc2_w 82, 3) := by decide +kernel
theorem dX3_holder_6 : decode cX3_holder 6 = .ok (.invokestatic 49, 3) := by decide +kernel
theorem dX3_holder_9 : decode cX3_holder 9 = .ok (.ifCond .eq 15, 3) := by decide +kernel
theorem dX3_holder_12 : decode cX3_holder 12 = .ok (.iload_n 2, 1) := by decide +kernel
theorem dX3_holder_13 : decode cX3_holder 13 = .ok (.i2l, 1) := by decide +kernel
theorem dX3_holder_14 : decode cX3_holder 14 = .ok (.lconst 0, 1) := by decide +kernel
theorem dX3_holder_15 : decode cX3_holder 15 = .ok (.ldc2_w 60, 3) := by decide +kernel
theorem dX3_holder_18 : decode cX3_holder 18 = .ok (.invokestatic 49, 3) := by decide +kernel
theorem dX3_holder_21 : decode cX3_holder 21 = .ok (.ifCond .ne 6, 3) := by decide +kernel
theorem dX3_holder_24 : decode cX3_holder 24 = .ok (.bipush (-102), 2) := by decide +kernel
theorem dX3_holder_26 : decode cX3_holder 26 = .ok (.ireturn, 1) := by decide +kernel
theorem dX3_holder_27 : decode cX3_holder 27 = .ok (.aload_n 0, 1) := by decide +kernel
theorem dX3_holder_28 : decode cX3_holder 28 = .ok (.getfield 76, 3) := by decide +kernel
theorem dX3_holder_31 : decode cX3_holder 31 = .ok (.iconst 4, 1) := by decide +kernel
theorem dX3_holder_32 : decode cX3_holder 32 = .ok (.if_icmp .ne 6, 3) := by decide +kernel
theorem dX3_holder_35 : decode cX3_holder 35 = .ok (.bipush (-104), 2) := by decide +kernel
theorem dX3_holder_37 : decode cX3_holder 37 = .ok (.ireturn, 1) := by decide +kernel
theorem dX3_holder_38 : decode cX3_holder 38 = .ok (.aload_n 0, 1) := by decide +kernel
theorem dX3_holder_39 : decode cX3_holder 39 = .ok (.getfield 13, 3) := by decide +kernel
theorem dX3_holder_42 : decode cX3_holder 42 = .ok (.iconst 4, 1) := by decide +kernel
theorem dX3_holder_43 : decode cX3_holder 43 = .ok (.aload_n 0, 1) := by decide +kernel
theorem dX3_holder_44 : decode cX3_holder 44 = .ok (.getfield 76, 3) := by decide +kernel
theorem dX3_holder_47 : decode cX3_holder 47 = .ok (.imul, 1) := by decide +kernel
theorem dX3_holder_48 : decode cX3_holder 48 = .ok (.iload_n 1, 1) := by decide +kernel
theorem dX3_holder_49 : decode cX3_holder 49 = .ok (.iastore, 1) := by decide +kernel
theorem dX3_holder_50 : decode cX3_holder 50 = .ok (.aload_n 0, 1) := by decide +kernel
theorem dX3_holder_51 : decode cX3_holder 51 = .ok (.getfield 13, 3) := by decide +kernel
theorem dX3_holder_54 : decode cX3_holder 54 = .ok (.iconst 4, 1) := by decide +kernel
theorem dX3_holder_55 : decode cX3_holder 55 = .ok (.aload_n 0, 1) := by decide +kernel
theorem dX3_holder_56 : decode cX3_holder 56 = .ok (.getfield 76, 3) := by decide +kernel
theorem dX3_holder_59 : decode cX3_holder 59 = .ok (.imul, 1) := by decide +kernel
theorem dX3_holder_60 : decode cX3_holder 60 = .ok (.iconst 1, 1) := by decide +kernel
theorem dX3_holder_61 : decode cX3_holder 61 = .ok (.iadd, 1) := by decide +kernel
theorem dX3_holder_62 : decode cX3_holder 62 = .ok (.iload_n 2, 1) := by decide +kernel
theorem dX3_holder_63 : decode cX3_holder 63 = .ok (.iastore, 1) := by decide +kernel
theorem dX3_holder_64 : decode cX3_holder 64 = .ok (.aload_n 0, 1) := by decide +kernel
theorem dX3_holder_65 : decode cX3_holder 65 = .ok (.getfield 13, 3) := by decide +kernel
theorem dX3_holder_68 : decode cX3_holder 68 = .ok (.iconst 4, 1) := by decide +kernel
theorem dX3_holder_69 : decode cX3_holder 69 = .ok (.aload_n 0, 1) := by decide +kernel
theorem dX3_holder_70 : decode cX3_holder 70 = .ok (.getfield 76, 3) := by decide +kernel
theorem dX3_holder_73 : decode cX3_holder 73 = .ok (.imul, 1) := by decide +kernel
theorem dX3_holder_74 : decode cX3_holder 74 = .ok (.iconst 2, 1) := by decide +kernel
theorem dX3_holder_75 : decode cX3_holder 75 = .ok (.iadd, 1) := by decide +kernel
theorem dX3_holder_76 : decode cX3_holder 76 = .ok (.iconst 1, 1) := by decide +kernel
theorem dX3_holder_77 : decode cX3_holder 77 = .ok (.iastore, 1) := by decide +kernel
theorem dX3_holder_78 : decode cX3_holder 78 = .ok (.aload_n 0, 1) := by decide +kernel
theorem dX3_holder_79 : decode cX3_holder 79 = .ok (.getfield 13, 3) := by decide +kernel
theorem dX3_holder_82 : decode cX3_holder 82 = .ok (.iconst 4, 1) := by decide +kernel
theorem dX3_holder_83 : decode cX3_holder 83 = .ok (.aload_n 0, 1) := by decide +kernel
theorem dX3_holder_84 : decode cX3_holder 84 = .ok (.getfield 76, 3) := by decide +kernel
theorem dX3_holder_87 : decode cX3_holder 87 = .ok (.imul, 1) := by decide +kernel
theorem dX3_holder_88 : decode cX3_holder 88 = .ok (.iconst 3, 1) := by decide +kernel
theorem dX3_holder_89 : decode cX3_holder 89 = .ok (.iadd, 1) := by decide +kernel
theorem dX3_holder_90 : decode cX3_holder 90 = .ok (.iconst (-1), 1) := by decide +kernel
theorem dX3_holder_91 : decode cX3_holder 91 = .ok (.iastore, 1) := by decide +kernel
theorem dX3_holder_92 : decode cX3_holder 92 = .ok (.aload_n 0, 1) := by decide +kernel
theorem dX3_holder_93 : decode cX3_holder 93 = .ok (.dup, 1) := by decide +kernel
theorem dX3_holder_94 : decode cX3_holder 94 = .ok (.getfield 76, 3) := by decide +kernel
theorem dX3_holder_97 : decode cX3_holder 97 = .ok (.iconst 1, 1) := by decide +kernel
theorem dX3_holder_98 : decode cX3_holder 98 = .ok (.iadd, 1) := by decide +kernel
theorem dX3_holder_99 : decode cX3_holder 99 = .ok (.putfield 76, 3) := by decide +kernel
theorem dX3_holder_102 : decode cX3_holder 102 = .ok (.aload_n 0, 1) := by decide +kernel
theorem dX3_holder_103 : decode cX3_holder 103 = .ok (.getfield 76, 3) := by decide +kernel
theorem dX3_holder_106 : decode cX3_holder 106 = .ok (.iconst 1, 1) := by decide +kernel
theorem dX3_holder_107 : decode cX3_holder 107 = .ok (.isub, 1) := by decide +kernel
theorem dX3_holder_108 : decode cX3_holder 108 = .ok (.ireturn, 1) := by decide +kernel
theorem dX3_lordOf_0 : decode cX3_lordOf 0 = .ok (.aload_n 0, 1) := by decide +kernel
theorem dX3_lordOf_1 : decode cX3_lordOf 1 = .ok (.getfield 13, 3) := by decide +kernel
theorem dX3_lordOf_4 : decode cX3_lordOf 4 = .ok (.iconst 4, 1) := by decide +kernel
theorem dX3_lordOf_5 : decode cX3_lordOf 5 = .ok (.iload_n 1, 1) := by decide +kernel
theorem dX3_lordOf_6 : decode cX3_lordOf 6 = .ok (.imul, 1) := by decide +kernel
theorem dX3_lordOf_7 : decode cX3_lordOf 7 = .ok (.iaload, 1) := by decide +kernel
theorem dX3_lordOf_8 : decode cX3_lordOf 8 = .ok (.istore_n 2, 1) := by decide +kernel
theorem dX3_lordOf_9 : decode cX3_lordOf 9 = .ok (.iload_n 2, 1) := by decide +kernel
theorem dX3_lordOf_10 : decode cX3_lordOf 10 = .ok (.iconst 2, 1) := by decide +kernel
theorem dX3_lordOf_11 : decode cX3_lordOf 11 = .ok (.if_icmp .le 7, 3) := by decide +kernel
theorem dX3_lordOf_14 : decode cX3_lordOf 14 = .ok (.iconst 0, 1) := by decide +kernel
theorem dX3_lordOf_15 : decode cX3_lordOf 15 = .ok (.goto 21, 3) := by decide +kernel
theorem dX3_lordOf_18 : decode cX3_lordOf 18 = .ok (.iload_n 2, 1) := by decide +kernel
theorem dX3_lordOf_19 : decode cX3_lordOf 19 = .ok (.iconst 1, 1) := by decide +kernel
theorem dX3_lordOf_20 : decode cX3_lordOf 20 = .ok (.if_icmp .ne 12, 3) := by decide +kernel
theorem dX3_lordOf_23 : decode cX3_lordOf 23 = .ok (.aload_n 0, 1) := by decide +kernel
theorem dX3_lordOf_24 : decode cX3_lordOf 24 = .ok (.getfield 34, 3) := by decide +kernel
theorem dX3_lordOf_27 : decode cX3_lordOf 27 = .ok (.iconst 1, 1) := by decide +kernel
theorem dX3_lordOf_28 : decode cX3_lordOf 28 = .ok (.isub, 1) := by decide +kernel
theorem dX3_lordOf_29 : decode cX3_lordOf 29 = .ok (.goto 7, 3) := by decide +kernel
theorem dX3_lordOf_32 : decode cX3_lordOf 32 = .ok (.aload_n 0, 1) := by decide +kernel
theorem dX3_lordOf_33 : decode cX3_lordOf 33 = .ok (.getfield 34, 3) := by decide +kernel
theorem dX3_lordOf_36 : decode cX3_lordOf 36 = .ok (.istore_n 3, 1) := by decide +kernel
theorem dX3_lordOf_37 : decode cX3_lordOf 37 = .ok (.iload_n 3, 1) := by decide +kernel
theorem dX3_lordOf_38 : decode cX3_lordOf 38 = .ok (.ifCond .ge 7, 3) := by decide +kernel
theorem dX3_lordOf_41 : decode cX3_lordOf 41 = .ok (.iconst 0, 1) := by decide +kernel
theorem dX3_lordOf_42 : decode cX3_lordOf 42 = .ok (.goto 4, 3) := by decide +kernel
theorem dX3_lordOf_45 : decode cX3_lordOf 45 = .ok (.iload_n 3, 1) := by decide +kernel
theorem dX3_lordOf_46 : decode cX3_lordOf 46 = .ok (.ireturn, 1) := by decide +kernel
theorem dX3_churchOf_0 : decode cX3_churchOf 0 = .ok (.aload_n 0, 1) := by decide +kernel
theorem dX3_churchOf_1 : decode cX3_churchOf 1 = .ok (.getfield 13, 3) := by decide +kernel
theorem dX3_churchOf_4 : decode cX3_churchOf 4 = .ok (.iconst 4, 1) := by decide +kernel
theorem dX3_churchOf_5 : decode cX3_churchOf 5 = .ok (.iload_n 1, 1) := by decide +kernel
theorem dX3_churchOf_6 : decode cX3_churchOf 6 = .ok (.imul, 1) := by decide +kernel
theorem dX3_churchOf_7 : decode cX3_churchOf 7 = .ok (.iaload, 1) := by decide +kernel
theorem dX3_churchOf_8 : decode cX3_churchOf 8 = .ok (.istore_n 2, 1) := by decide +kernel
theorem dX3_churchOf_9 : decode cX3_churchOf 9 = .ok (.iload_n 2, 1) := by decide +kernel
theorem dX3_churchOf_10 : decode cX3_churchOf 10 = .ok (.iconst 2, 1) := by decide +kernel
theorem dX3_churchOf_11 : decode cX3_churchOf 11 = .ok (.if_icmp .ne 12, 3) := by decide +kernel
theorem dX3_churchOf_14 : decode cX3_churchOf 14 = .ok (.aload_n 0, 1) := by decide +kernel
theorem dX3_churchOf_15 : decode cX3_churchOf 15 = .ok (.getfield 38, 3) := by decide +kernel
theorem dX3_churchOf_18 : decode cX3_churchOf 18 = .ok (.iconst 1, 1) := by decide +kernel
theorem dX3_churchOf_19 : decode cX3_churchOf 19 = .ok (.iadd, 1) := by decide +kernel
theorem dX3_churchOf_20 : decode cX3_churchOf 20 = .ok (.goto 21, 3) := by decide +kernel
theorem dX3_churchOf_23 : decode cX3_churchOf 23 = .ok (.iload_n 2, 1) := by decide +kernel
theorem dX3_churchOf_24 : decode cX3_churchOf 24 = .ok (.iconst 4, 1) := by decide +kernel
theorem dX3_churchOf_25 : decode cX3_churchOf 25 = .ok (.if_icmp .ne 12, 3) := by decide +kernel
theorem dX3_churchOf_28 : decode cX3_churchOf 28 = .ok (.aload_n 0, 1) := by decide +kernel
theorem dX3_churchOf_29 : decode cX3_churchOf 29 = .ok (.getfield 38, 3) := by decide +kernel
theorem dX3_churchOf_32 : decode cX3_churchOf 32 = .ok (.iconst 2, 1) := by decide +kernel
theorem dX3_churchOf_33 : decode cX3_churchOf 33 = .ok (.isub, 1) := by decide +kernel
theorem dX3_churchOf_34 : decode cX3_churchOf 34 = .ok (.goto 7, 3) := by decide +kernel
theorem dX3_churchOf_37 : decode cX3_churchOf 37 = .ok (.aload_n 0, 1) := by decide +kernel
theorem dX3_churchOf_38 : decode cX3_churchOf 38 = .ok (.getfield 38, 3) := by decide +kernel
theorem dX3_churchOf_41 : decode cX3_churchOf 41 = .ok (.istore_n 3, 1) := by decide +kernel
theorem dX3_churchOf_42 : decode cX3_churchOf 42 = .ok (.iload_n 3, 1) := by decide +kernel
theorem dX3_churchOf_43 : decode cX3_churchOf 43 = .ok (.ifCond .ge 7, 3) := by decide +kernel
theorem dX3_churchOf_46 : decode cX3_churchOf 46 = .ok (.iconst 0, 1) := by decide +kernel
theorem dX3_churchOf_47 : decode cX3_churchOf 47 = .ok (.goto 4, 3) := by decide +kernel
theorem dX3_churchOf_50 : decode cX3_churchOf 50 = .ok (.iload_n 3, 1) := by decide +kernel
theorem dX3_churchOf_51 : decode cX3_churchOf 51 = .ok (.ireturn, 1) := by decide +kernel
theorem dX3_hisBits_0 : decode cX3_hisBits 0 = .ok (.iconst 0, 1) := by decide +kernel
theorem dX3_hisBits_1 : decode cX3_hisBits 1 = .ok (.istore_n 2, 1) := by decide +kernel
theorem dX3_hisBits_2 : decode cX3_hisBits 2 = .ok (.iconst 0, 1) := by decide +kernel
theorem dX3_hisBits_3 : decode cX3_hisBits 3 = .ok (.istore_n 3, 1) := by decide +kernel
theorem dX3_hisBits_4 : decode cX3_hisBits 4 = .ok (.iload_n 3, 1) := by decide +kernel
theorem dX3_hisBits_5 : decode cX3_hisBits 5 = .ok (.aload_n 0, 1) := by decide +kernel
theorem dX3_hisBits_6 : decode cX3_hisBits 6 = .ok (.getfield 79, 3) := by decide +kernel
theorem dX3_hisBits_9 : decode cX3_hisBits 9 = .ok (.if_icmp .ge 33, 3) := by decide +kernel
theorem dX3_hisBits_12 : decode cX3_hisBits 12 = .ok (.iload_n 2, 1) := by decide +kernel
theorem dX3_hisBits_13 : decode cX3_hisBits 13 = .ok (.aload_n 0, 1) := by decide +kernel
theorem dX3_hisBits_14 : decode cX3_hisBits 14 = .ok (.getfield 16, 3) := by decide +kernel
theorem dX3_hisBits_17 : decode cX3_hisBits 17 = .ok (.iconst 5, 1) := by decide +kernel
theorem dX3_hisBits_18 : decode cX3_hisBits 18 = .ok (.iload_n 3, 1) := by decide +kernel
theorem dX3_hisBits_19 : decode cX3_hisBits 19 = .ok (.imul, 1) := by decide +kernel
theorem dX3_hisBits_20 : decode cX3_hisBits 20 = .ok (.iconst 1, 1) := by decide +kernel
theorem dX3_hisBits_21 : decode cX3_hisBits 21 = .ok (.iadd, 1) := by decide +kernel
theorem dX3_hisBits_22 : decode cX3_hisBits 22 = .ok (.iaload, 1) := by decide +kernel
theorem dX3_hisBits_23 : decode cX3_hisBits 23 = .ok (.iload_n 1, 1) := by decide +kernel
theorem dX3_hisBits_24 : decode cX3_hisBits 24 = .ok (.if_icmp .ne 9, 3) := by decide +kernel
theorem dX3_hisBits_27 : decode cX3_hisBits 27 = .ok (.iconst 1, 1) := by decide +kernel
theorem dX3_hisBits_28 : decode cX3_hisBits 28 = .ok (.iload_n 3, 1) := by decide +kernel
theorem dX3_hisBits_29 : decode cX3_hisBits 29 = .ok (.ishl, 1) := by decide +kernel
theorem dX3_hisBits_30 : decode cX3_hisBits 30 = .ok (.goto 4, 3) := by decide +kernel
theorem dX3_hisBits_33 : decode cX3_hisBits 33 = .ok (.iconst 0, 1) := by decide +kernel
theorem dX3_hisBits_34 : decode cX3_hisBits 34 = .ok (.ior, 1) := by decide +kernel
theorem dX3_hisBits_35 : decode cX3_hisBits 35 = .ok (.istore_n 2, 1) := by decide +kernel
theorem dX3_hisBits_36 : decode cX3_hisBits 36 = .ok (.iinc 3 1, 3) := by decide +kernel
theorem dX3_hisBits_39 : decode cX3_hisBits 39 = .ok (.goto (-35), 3) := by decide +kernel
theorem dX3_hisBits_42 : decode cX3_hisBits 42 = .ok (.iload_n 2, 1) := by decide +kernel
theorem dX3_hisBits_43 : decode cX3_hisBits 43 = .ok (.ireturn, 1) := by decide +kernel
set_option maxRecDepth 20000 in
theorem ggX3_heldBits_X3_hisBits : GoodIn wsX3_heldBits wsX3_hisBits := goodIn_r _ [8, 1, 2, 9, 10, 11, 12, 13, 14, 15, 16, 17, 18, 19, 20, 21, 22, 23, 24, 25, 26, 27, 28, 29, 30, 31, 32] (by decide +kernel) (by decide +kernel)
set_option maxRecDepth 20000 in
theorem gX3_heldBits_X3_hisBits : GoodIn wsX3_heldBits (wsV RX3 84 RX3 yX3_hisBits wsX3_hisBits) := goodIn_app (goodIn_of _ (by decide +kernel)) ggX3_heldBits_X3_hisBits
theorem dX3_heldBits_0 : decode cX3_heldBits 0 = .ok (.aload_n 0, 1) := by decide +kernel
theorem dX3_heldBits_1 : decode cX3_heldBits 1 = .ok (.iload_n 1, 1) := by decide +kernel
theorem dX3_heldBits_2 : decode cX3_heldBits 2 = .ok (.invokevirtual 84, 3) := by decide +kernel
theorem dX3_heldBits_5 : decode cX3_heldBits 5 = .ok (.istore_n 3, 1) := by decide +kernel
theorem dX3_heldBits_6 : decode cX3_heldBits 6 = .ok (.iconst 0, 1) := by decide +kernel
theorem dX3_heldBits_7 : decode cX3_heldBits 7 = .ok (.istore 4, 2) := by decide +kernel
theorem dX3_heldBits_9 : decode cX3_heldBits 9 = .ok (.iload 4, 2) := by decide +kernel
theorem dX3_heldBits_11 : decode cX3_heldBits 11 = .ok (.aload_n 0, 1) := by decide +kernel
theorem dX3_heldBits_12 : decode cX3_heldBits 12 = .ok (.getfield 79, 3) := by decide +kernel
theorem dX3_heldBits_15 : decode cX3_heldBits 15 = .ok (.if_icmp .ge 82, 3) := by decide +kernel
theorem dX3_heldBits_18 : decode cX3_heldBits 18 = .ok (.aload_n 0, 1) := by decide +kernel
theorem dX3_heldBits_19 : decode cX3_heldBits 19 = .ok (.getfield 16, 3) := by decide +kernel
theorem dX3_heldBits_22 : decode cX3_heldBits 22 = .ok (.iconst 5, 1) := by decide +kernel
theorem dX3_heldBits_23 : decode cX3_heldBits 23 = .ok (.iload 4, 2) := by decide +kernel
theorem dX3_heldBits_25 : decode cX3_heldBits 25 = .ok (.imul, 1) := by decide +kernel
theorem dX3_heldBits_26 : decode cX3_heldBits 26 = .ok (.iconst 1, 1) := by decide +kernel
theorem dX3_heldBits_27 : decode cX3_heldBits 27 = .ok (.iadd, 1) := by decide +kernel
theorem dX3_heldBits_28 : decode cX3_heldBits 28 = .ok (.iaload, 1) := by decide +kernel
theorem dX3_heldBits_29 : decode cX3_heldBits 29 = .ok (.iconst (-1), 1) := by decide +kernel
theorem dX3_heldBits_30 : decode cX3_heldBits 30 = .ok (.if_icmp .eq 42, 3) := by decide +kernel
theorem dX3_heldBits_33 : decode cX3_heldBits 33 = .ok (.aload_n 0, 1) := by decide +kernel
theorem dX3_heldBits_34 : decode cX3_heldBits 34 = .ok (.getfield 16, 3) := by decide +kernel
theorem dX3_heldBits_37 : decode cX3_heldBits 37 = .ok (.iconst 5, 1) := by decide +kernel
theorem dX3_heldBits_38 : decode cX3_heldBits 38 = .ok (.iload 4, 2) := by decide +kernel
theorem dX3_heldBits_40 : decode cX3_heldBits 40 = .ok (.imul, 1) := by decide +kernel
theorem dX3_heldBits_41 : decode cX3_heldBits 41 = .ok (.iconst 2, 1) := by decide +kernel
theorem dX3_heldBits_42 : decode cX3_heldBits 42 = .ok (.iadd, 1) := by decide +kernel
theorem dX3_heldBits_43 : decode cX3_heldBits 43 = .ok (.iaload, 1) := by decide +kernel
theorem dX3_heldBits_44 : decode cX3_heldBits 44 = .ok (.iload_n 1, 1) := by decide +kernel
theorem dX3_heldBits_45 : decode cX3_heldBits 45 = .ok (.if_icmp .ne 27, 3) := by decide +kernel
theorem dX3_heldBits_48 : decode cX3_heldBits 48 = .ok (.iload_n 2, 1) := by decide +kernel
theorem dX3_heldBits_49 : decode cX3_heldBits 49 = .ok (.aload_n 0, 1) := by decide +kernel
theorem dX3_heldBits_50 : decode cX3_heldBits 50 = .ok (.getfield 16, 3) := by decide +kernel
theorem dX3_heldBits_53 : decode cX3_heldBits 53 = .ok (.iconst 5, 1) := by decide +kernel
theorem dX3_heldBits_54 : decode cX3_heldBits 54 = .ok (.iload 4, 2) := by decide +kernel
theorem dX3_heldBits_56 : decode cX3_heldBits 56 = .ok (.imul, 1) := by decide +kernel
theorem dX3_heldBits_57 : decode cX3_heldBits 57 = .ok (.iconst 3, 1) := by decide +kernel
theorem dX3_heldBits_58 : decode cX3_heldBits 58 = .ok (.iadd, 1) := by decide +kernel
theorem dX3_heldBits_59 : decode cX3_heldBits 59 = .ok (.iaload, 1) := by decide +kernel
theorem dX3_heldBits_60 : decode cX3_heldBits 60 = .ok (.isub, 1) := by decide +kernel
theorem dX3_heldBits_61 : decode cX3_heldBits 61 = .ok (.aload_n 0, 1) := by decide +kernel
theorem dX3_heldBits_62 : decode cX3_heldBits 62 = .ok (.getfield 41, 3) := by decide +kernel
theorem dX3_heldBits_65 : decode cX3_heldBits 65 = .ok (.if_icmp .ge 7, 3) := by decide +kernel
theorem dX3_heldBits_68 : decode cX3_heldBits 68 = .ok (.iconst 1, 1) := by decide +kernel
theorem dX3_heldBits_69 : decode cX3_heldBits 69 = .ok (.goto 4, 3) := by decide +kernel
theorem dX3_heldBits_72 : decode cX3_heldBits 72 = .ok (.iconst 0, 1) := by decide +kernel
theorem dX3_heldBits_73 : decode cX3_heldBits 73 = .ok (.istore 5, 2) := by decide +kernel
theorem dX3_heldBits_75 : decode cX3_heldBits 75 = .ok (.iload_n 3, 1) := by decide +kernel
theorem dX3_heldBits_76 : decode cX3_heldBits 76 = .ok (.iload 5, 2) := by decide +kernel
theorem dX3_heldBits_78 : decode cX3_heldBits 78 = .ok (.ifCond .eq 10, 3) := by decide +kernel
theorem dX3_heldBits_81 : decode cX3_heldBits 81 = .ok (.iconst 1, 1) := by decide +kernel
theorem dX3_heldBits_82 : decode cX3_heldBits 82 = .ok (.iload 4, 2) := by decide +kernel
theorem dX3_heldBits_84 : decode cX3_heldBits 84 = .ok (.ishl, 1) := by decide +kernel
theorem dX3_heldBits_85 : decode cX3_heldBits 85 = .ok (.goto 4, 3) := by decide +kernel
theorem dX3_heldBits_88 : decode cX3_heldBits 88 = .ok (.iconst 0, 1) := by decide +kernel
theorem dX3_heldBits_89 : decode cX3_heldBits 89 = .ok (.ior, 1) := by decide +kernel
theorem dX3_heldBits_90 : decode cX3_heldBits 90 = .ok (.istore_n 3, 1) := by decide +kernel
theorem dX3_heldBits_91 : decode cX3_heldBits 91 = .ok (.iinc 4 1, 3) := by decide +kernel
theorem dX3_heldBits_94 : decode cX3_heldBits 94 = .ok (.goto (-85), 3) := by decide +kernel
theorem dX3_heldBits_97 : decode cX3_heldBits 97 = .ok (.iload_n 3, 1) := by decide +kernel
theorem dX3_heldBits_98 : decode cX3_heldBits 98 = .ok (.ireturn, 1) := by decide +kernel
theorem dX3_bestOf_0 : decode cX3_bestOf 0 = .ok (.iconst (-1), 1) := by decide +kernel
theorem dX3_bestOf_1 : decode cX3_bestOf 1 = .ok (.istore_n 2, 1) := by decide +kernel
theorem dX3_bestOf_2 : decode cX3_bestOf 2 = .ok (.iconst 0, 1) := by decide +kernel
theorem dX3_bestOf_3 : decode cX3_bestOf 3 = .ok (.istore_n 3, 1) := by decide +kernel
theorem dX3_bestOf_4 : decode cX3_bestOf 4 = .ok (.iload_n 3, 1) := by decide +kernel
theorem dX3_bestOf_5 : decode cX3_bestOf 5 = .ok (.aload_n 0, 1) := by decide +kernel
theorem dX3_bestOf_6 : decode cX3_bestOf 6 = .ok (.getfield 79, 3) := by decide +kernel
theorem dX3_bestOf_9 : decode cX3_bestOf 9 = .ok (.if_icmp .ge 75, 3) := by decide +kernel
theorem dX3_bestOf_12 : decode cX3_bestOf 12 = .ok (.iload_n 1, 1) := by decide +kernel
theorem dX3_bestOf_13 : decode cX3_bestOf 13 = .ok (.iload_n 3, 1) := by decide +kernel
theorem dX3_bestOf_14 : decode cX3_bestOf 14 = .ok (.ishr, 1) := by decide +kernel
theorem dX3_bestOf_15 : decode cX3_bestOf 15 = .ok (.iconst 1, 1) := by decide +kernel
theorem dX3_bestOf_16 : decode cX3_bestOf 16 = .ok (.iand, 1) := by decide +kernel
theorem dX3_bestOf_17 : decode cX3_bestOf 17 = .ok (.iconst 1, 1) := by decide +kernel
theorem dX3_bestOf_18 : decode cX3_bestOf 18 = .ok (.if_icmp .ne 22, 3) := by decide +kernel
theorem dX3_bestOf_21 : decode cX3_bestOf 21 = .ok (.aload_n 0, 1) := by decide +kernel
theorem dX3_bestOf_22 : decode cX3_bestOf 22 = .ok (.getfield 16, 3) := by decide +kernel
theorem dX3_bestOf_25 : decode cX3_bestOf 25 = .ok (.iconst 5, 1) := by decide +kernel
theorem dX3_bestOf_26 : decode cX3_bestOf 26 = .ok (.iload_n 3, 1) := by decide +kernel
theorem dX3_bestOf_27 : decode cX3_bestOf 27 = .ok (.imul, 1) := by decide +kernel
theorem dX3_bestOf_28 : decode cX3_bestOf 28 = .ok (.iaload, 1) := by decide +kernel
theorem dX3_bestOf_29 : decode cX3_bestOf 29 = .ok (.aload_n 0, 1) := by decide +kernel
theorem dX3_bestOf_30 : decode cX3_bestOf 30 = .ok (.getfield 70, 3) := by decide +kernel
theorem dX3_bestOf_33 : decode cX3_bestOf 33 = .ok (.if_icmp .lt 7, 3) := by decide +kernel
theorem dX3_bestOf_36 : decode cX3_bestOf 36 = .ok (.iconst 1, 1) := by decide +kernel
theorem dX3_bestOf_37 : decode cX3_bestOf 37 = .ok (.goto 4, 3) := by decide +kernel
theorem dX3_bestOf_40 : decode cX3_bestOf 40 = .ok (.iconst 0, 1) := by decide +kernel
theorem dX3_bestOf_41 : decode cX3_bestOf 41 = .ok (.istore 4, 2) := by decide +kernel
theorem dX3_bestOf_43 : decode cX3_bestOf 43 = .ok (.iload 4, 2) := by decide +kernel
theorem dX3_bestOf_45 : decode cX3_bestOf 45 = .ok (.ifCond .eq 31, 3) := by decide +kernel
theorem dX3_bestOf_48 : decode cX3_bestOf 48 = .ok (.iload_n 2, 1) := by decide +kernel
theorem dX3_bestOf_49 : decode cX3_bestOf 49 = .ok (.iconst (-1), 1) := by decide +kernel
theorem dX3_bestOf_50 : decode cX3_bestOf 50 = .ok (.if_icmp .eq 22, 3) := by decide +kernel
theorem dX3_bestOf_53 : decode cX3_bestOf 53 = .ok (.aload_n 0, 1) := by decide +kernel
theorem dX3_bestOf_54 : decode cX3_bestOf 54 = .ok (.getfield 16, 3) := by decide +kernel
theorem dX3_bestOf_57 : decode cX3_bestOf 57 = .ok (.iconst 5, 1) := by decide +kernel
theorem dX3_bestOf_58 : decode cX3_bestOf 58 = .ok (.iload_n 3, 1) := by decide +kernel
theorem dX3_bestOf_59 : decode cX3_bestOf 59 = .ok (.imul, 1) := by decide +kernel
theorem dX3_bestOf_60 : decode cX3_bestOf 60 = .ok (.iaload, 1) := by decide +kernel
theorem dX3_bestOf_61 : decode cX3_bestOf 61 = .ok (.aload_n 0, 1) := by decide +kernel
theorem dX3_bestOf_62 : decode cX3_bestOf 62 = .ok (.getfield 16, 3) := by decide +kernel
theorem dX3_bestOf_65 : decode cX3_bestOf 65 = .ok (.iconst 5, 1) := by decide +kernel
theorem dX3_bestOf_66 : decode cX3_bestOf 66 = .ok (.iload_n 2, 1) := by decide +kernel
theorem dX3_bestOf_67 : decode cX3_bestOf 67 = .ok (.imul, 1) := by decide +kernel
theorem dX3_bestOf_68 : decode cX3_bestOf 68 = .ok (.iaload, 1) := by decide +kernel
theorem dX3_bestOf_69 : decode cX3_bestOf 69 = .ok (.if_icmp .le 7, 3) := by decide +kernel
theorem dX3_bestOf_72 : decode cX3_bestOf 72 = .ok (.iload_n 3, 1) := by decide +kernel
theorem dX3_bestOf_73 : decode cX3_bestOf 73 = .ok (.goto 4, 3) := by decide +kernel
theorem dX3_bestOf_76 : decode cX3_bestOf 76 = .ok (.iload_n 2, 1) := by decide +kernel
theorem dX3_bestOf_77 : decode cX3_bestOf 77 = .ok (.istore_n 2, 1) := by decide +kernel
theorem dX3_bestOf_78 : decode cX3_bestOf 78 = .ok (.iinc 3 1, 3) := by decide +kernel
theorem dX3_bestOf_81 : decode cX3_bestOf 81 = .ok (.goto (-77), 3) := by decide +kernel
theorem dX3_bestOf_84 : decode cX3_bestOf 84 = .ok (.iload_n 2, 1) := by decide +kernel
theorem dX3_bestOf_85 : decode cX3_bestOf 85 = .ok (.ireturn, 1) := by decide +kernel
set_option maxRecDepth 20000 in
theorem ggX3_takenOf_X3_lordOf : GoodIn wsX3_takenOf wsX3_lordOf := goodIn_r _ [5, 6, 7, 20, 21, 22, 23, 24, 25, 26, 27, 28, 29, 30, 31, 32, 33, 34, 35, 36, 37, 38, 39, 40, 41, 42, 43] (by decide +kernel) (by decide +kernel)
set_option maxRecDepth 20000 in
theorem gX3_takenOf_X3_lordOf : GoodIn wsX3_takenOf (wsV RX3 88 RX3 yX3_lordOf wsX3_lordOf) := goodIn_app (goodIn_of _ (by decide +kernel)) ggX3_takenOf_X3_lordOf
set_option maxRecDepth 20000 in
theorem ggX3_takenOf_X3_churchOf : GoodIn wsX3_takenOf wsX3_churchOf := goodIn_r _ [11, 6, 12, 20, 21, 22, 23, 24, 25, 26, 27, 28, 29, 30, 31, 32, 33, 34, 35, 36, 37, 38, 39, 40, 41, 42, 43] (by decide +kernel) (by decide +kernel)
set_option maxRecDepth 20000 in
theorem gX3_takenOf_X3_churchOf : GoodIn wsX3_takenOf (wsV RX3 91 RX3 yX3_churchOf wsX3_churchOf) := goodIn_app (goodIn_of _ (by decide +kernel)) ggX3_takenOf_X3_churchOf
set_option maxRecDepth 20000 in
theorem ggX3_takenOf_X3_bestOf : GoodIn wsX3_takenOf wsX3_bestOf := goodIn_r _ [16, 17, 18, 19, 20, 21, 22, 23, 24, 25, 26, 27, 28, 29, 30, 31, 32, 33, 34, 35, 36, 37, 38, 39, 40, 41, 42, 43] (by decide +kernel) (by decide +kernel)
set_option maxRecDepth 20000 in
theorem gX3_takenOf_X3_bestOf : GoodIn wsX3_takenOf (wsV RX3 94 RX3 yX3_bestOf wsX3_bestOf) := goodIn_app (goodIn_of _ (by decide +kernel)) ggX3_takenOf_X3_bestOf
theorem dX3_takenOf_0 : decode cX3_takenOf 0 = .ok (.iload_n 2, 1) := by decide +kernel
theorem dX3_takenOf_1 : decode cX3_takenOf 1 = .ok (.istore_n 3, 1) := by decide +kernel
theorem dX3_takenOf_2 : decode cX3_takenOf 2 = .ok (.iconst 0, 1) := by decide +kernel
theorem dX3_takenOf_3 : decode cX3_takenOf 3 = .ok (.istore 4, 2) := by decide +kernel
theorem dX3_takenOf_5 : decode cX3_takenOf 5 = .ok (.iconst 0, 1) := by decide +kernel
theorem dX3_takenOf_6 : decode cX3_takenOf 6 = .ok (.istore 5, 2) := by decide +kernel
theorem dX3_takenOf_8 : decode cX3_takenOf 8 = .ok (.iload 5, 2) := by decide +kernel
theorem dX3_takenOf_10 : decode cX3_takenOf 10 = .ok (.aload_n 0, 1) := by decide +kernel
theorem dX3_takenOf_11 : decode cX3_takenOf 11 = .ok (.iload_n 1, 1) := by decide +kernel
theorem dX3_takenOf_12 : decode cX3_takenOf 12 = .ok (.invokevirtual 88, 3) := by decide +kernel
theorem dX3_takenOf_15 : decode cX3_takenOf 15 = .ok (.aload_n 0, 1) := by decide +kernel
theorem dX3_takenOf_16 : decode cX3_takenOf 16 = .ok (.iload_n 1, 1) := by decide +kernel
theorem dX3_takenOf_17 : decode cX3_takenOf 17 = .ok (.invokevirtual 91, 3) := by decide +kernel
theorem dX3_takenOf_20 : decode cX3_takenOf 20 = .ok (.iadd, 1) := by decide +kernel
theorem dX3_takenOf_21 : decode cX3_takenOf 21 = .ok (.if_icmp .ge 54, 3) := by decide +kernel
theorem dX3_takenOf_24 : decode cX3_takenOf 24 = .ok (.aload_n 0, 1) := by decide +kernel
theorem dX3_takenOf_25 : decode cX3_takenOf 25 = .ok (.iload_n 3, 1) := by decide +kernel
theorem dX3_takenOf_26 : decode cX3_takenOf 26 = .ok (.invokevirtual 94, 3) := by decide +kernel
theorem dX3_takenOf_29 : decode cX3_takenOf 29 = .ok (.istore 6, 2) := by decide +kernel
theorem dX3_takenOf_31 : decode cX3_takenOf 31 = .ok (.iload 4, 2) := by decide +kernel
theorem dX3_takenOf_33 : decode cX3_takenOf 33 = .ok (.iload 6, 2) := by decide +kernel
theorem dX3_takenOf_35 : decode cX3_takenOf 35 = .ok (.iconst (-1), 1) := by decide +kernel
theorem dX3_takenOf_36 : decode cX3_takenOf 36 = .ok (.if_icmp .ne 7, 3) := by decide +kernel
theorem dX3_takenOf_39 : decode cX3_takenOf 39 = .ok (.iconst 0, 1) := by decide +kernel
theorem dX3_takenOf_40 : decode cX3_takenOf 40 = .ok (.goto 7, 3) := by decide +kernel
theorem dX3_takenOf_43 : decode cX3_takenOf 43 = .ok (.iconst 1, 1) := by decide +kernel
theorem dX3_takenOf_44 : decode cX3_takenOf 44 = .ok (.iload 6, 2) := by decide +kernel
theorem dX3_takenOf_46 : decode cX3_takenOf 46 = .ok (.ishl, 1) := by decide +kernel
theorem dX3_takenOf_47 : decode cX3_takenOf 47 = .ok (.ior, 1) := by decide +kernel
theorem dX3_takenOf_48 : decode cX3_takenOf 48 = .ok (.istore 4, 2) := by decide +kernel
theorem dX3_takenOf_50 : decode cX3_takenOf 50 = .ok (.iload_n 3, 1) := by decide +kernel
theorem dX3_takenOf_51 : decode cX3_takenOf 51 = .ok (.iload 6, 2) := by decide +kernel
theorem dX3_takenOf_53 : decode cX3_takenOf 53 = .ok (.iconst (-1), 1) := by decide +kernel
theorem dX3_takenOf_54 : decode cX3_takenOf 54 = .ok (.if_icmp .ne 7, 3) := by decide +kernel
theorem dX3_takenOf_57 : decode cX3_takenOf 57 = .ok (.iload_n 3, 1) := by decide +kernel
theorem dX3_takenOf_58 : decode cX3_takenOf 58 = .ok (.goto 9, 3) := by decide +kernel
theorem dX3_takenOf_61 : decode cX3_takenOf 61 = .ok (.iconst 1, 1) := by decide +kernel
theorem dX3_takenOf_62 : decode cX3_takenOf 62 = .ok (.iload 6, 2) := by decide +kernel
theorem dX3_takenOf_64 : decode cX3_takenOf 64 = .ok (.ishl, 1) := by decide +kernel
theorem dX3_takenOf_65 : decode cX3_takenOf 65 = .ok (.iconst (-1), 1) := by decide +kernel
theorem dX3_takenOf_66 : decode cX3_takenOf 66 = .ok (.ixor, 1) := by decide +kernel
theorem dX3_takenOf_67 : decode cX3_takenOf 67 = .ok (.iand, 1) := by decide +kernel
theorem dX3_takenOf_68 : decode cX3_takenOf 68 = .ok (.istore_n 3, 1) := by decide +kernel
theorem dX3_takenOf_69 : decode cX3_takenOf 69 = .ok (.iinc 5 1, 3) := by decide +kernel
theorem dX3_takenOf_72 : decode cX3_takenOf 72 = .ok (.goto (-64), 3) := by decide +kernel
theorem dX3_takenOf_75 : decode cX3_takenOf 75 = .ok (.iload 4, 2) := by decide +kernel
theorem dX3_takenOf_77 : decode cX3_takenOf 77 = .ok (.ireturn, 1) := by decide +kernel
theorem dX3_worthOf_0 : decode cX3_worthOf 0 = .ok (.iconst 0, 1) := by decide +kernel
theorem dX3_worthOf_1 : decode cX3_worthOf 1 = .ok (.istore_n 2, 1) := by decide +kernel
theorem dX3_worthOf_2 : decode cX3_worthOf 2 = .ok (.iconst 0, 1) := by decide +kernel
theorem dX3_worthOf_3 : decode cX3_worthOf 3 = .ok (.istore_n 3, 1) := by decide +kernel
theorem dX3_worthOf_4 : decode cX3_worthOf 4 = .ok (.iload_n 3, 1) := by decide +kernel
theorem dX3_worthOf_5 : decode cX3_worthOf 5 = .ok (.aload_n 0, 1) := by decide +kernel
theorem dX3_worthOf_6 : decode cX3_worthOf 6 = .ok (.getfield 79, 3) := by decide +kernel
theorem dX3_worthOf_9 : decode cX3_worthOf 9 = .ok (.if_icmp .ge 33, 3) := by decide +kernel
theorem dX3_worthOf_12 : decode cX3_worthOf 12 = .ok (.iload_n 2, 1) := by decide +kernel
theorem dX3_worthOf_13 : decode cX3_worthOf 13 = .ok (.iload_n 1, 1) := by decide +kernel
theorem dX3_worthOf_14 : decode cX3_worthOf 14 = .ok (.iload_n 3, 1) := by decide +kernel
theorem dX3_worthOf_15 : decode cX3_worthOf 15 = .ok (.ishr, 1) := by decide +kernel
theorem dX3_worthOf_16 : decode cX3_worthOf 16 = .ok (.iconst 1, 1) := by decide +kernel
theorem dX3_worthOf_17 : decode cX3_worthOf 17 = .ok (.iand, 1) := by decide +kernel
theorem dX3_worthOf_18 : decode cX3_worthOf 18 = .ok (.iconst 1, 1) := by decide +kernel
theorem dX3_worthOf_19 : decode cX3_worthOf 19 = .ok (.if_icmp .ne 14, 3) := by decide +kernel
theorem dX3_worthOf_22 : decode cX3_worthOf 22 = .ok (.aload_n 0, 1) := by decide +kernel
theorem dX3_worthOf_23 : decode cX3_worthOf 23 = .ok (.getfield 16, 3) := by decide +kernel
theorem dX3_worthOf_26 : decode cX3_worthOf 26 = .ok (.iconst 5, 1) := by decide +kernel
theorem dX3_worthOf_27 : decode cX3_worthOf 27 = .ok (.iload_n 3, 1) := by decide +kernel
theorem dX3_worthOf_28 : decode cX3_worthOf 28 = .ok (.imul, 1) := by decide +kernel
theorem dX3_worthOf_29 : decode cX3_worthOf 29 = .ok (.iaload, 1) := by decide +kernel
theorem dX3_worthOf_30 : decode cX3_worthOf 30 = .ok (.goto 4, 3) := by decide +kernel
theorem dX3_worthOf_33 : decode cX3_worthOf 33 = .ok (.iconst 0, 1) := by decide +kernel
theorem dX3_worthOf_34 : decode cX3_worthOf 34 = .ok (.iadd, 1) := by decide +kernel
theorem dX3_worthOf_35 : decode cX3_worthOf 35 = .ok (.istore_n 2, 1) := by decide +kernel
theorem dX3_worthOf_36 : decode cX3_worthOf 36 = .ok (.iinc 3 1, 3) := by decide +kernel
theorem dX3_worthOf_39 : decode cX3_worthOf 39 = .ok (.goto (-35), 3) := by decide +kernel
theorem dX3_worthOf_42 : decode cX3_worthOf 42 = .ok (.iload_n 2, 1) := by decide +kernel
theorem dX3_worthOf_43 : decode cX3_worthOf 43 = .ok (.ireturn, 1) := by decide +kernel
set_option maxRecDepth 20000 in
theorem ggX3_lossBy_X3_takenOf : GoodIn wsX3_lossBy wsX3_takenOf := goodIn_r _ [5, 6, 7, 8, 4, 9, 10, 11, 12, 13, 14, 15, 16, 17, 18, 19, 20, 21, 22, 23, 28, 29, 30, 31, 32, 33, 34, 35, 36, 37, 38, 39, 40, 41, 42, 43, 44, 45, 46, 47, 48, 49, 50, 51] (by decide +kernel) (by decide +kernel)
set_option maxRecDepth 20000 in
theorem gX3_lossBy_X3_takenOf : GoodIn wsX3_lossBy (wsV RX3 97 RX3 yX3_takenOf wsX3_takenOf) := goodIn_app (goodIn_of _ (by decide +kernel)) ggX3_lossBy_X3_takenOf
set_option maxRecDepth 20000 in
theorem ggX3_lossBy_X3_worthOf : GoodIn wsX3_lossBy wsX3_worthOf := goodIn_r _ [27, 21, 22, 28, 29, 30, 31, 32, 33, 34, 35, 36, 37, 38, 39, 40, 41, 42, 43, 44, 45, 46, 47, 48, 49, 50, 51] (by decide +kernel) (by decide +kernel)
set_option maxRecDepth 20000 in
theorem gX3_lossBy_X3_worthOf : GoodIn wsX3_lossBy (wsV RX3 101 RX3 yX3_worthOf wsX3_worthOf) := goodIn_app (goodIn_of _ (by decide +kernel)) ggX3_lossBy_X3_worthOf
theorem dX3_lossBy_0 : decode cX3_lossBy 0 = .ok (.aload_n 0, 1) := by decide +kernel
theorem dX3_lossBy_1 : decode cX3_lossBy 1 = .ok (.aload_n 0, 1) := by decide +kernel
theorem dX3_lossBy_2 : decode cX3_lossBy 2 = .ok (.iload_n 1, 1) := by decide +kernel
theorem dX3_lossBy_3 : decode cX3_lossBy 3 = .ok (.iload_n 2, 1) := by decide +kernel
theorem dX3_lossBy_4 : decode cX3_lossBy 4 = .ok (.invokevirtual 97, 3) := by decide +kernel
theorem dX3_lossBy_7 : decode cX3_lossBy 7 = .ok (.invokevirtual 101, 3) := by decide +kernel
theorem dX3_lossBy_10 : decode cX3_lossBy 10 = .ok (.ireturn, 1) := by decide +kernel
set_option maxRecDepth 20000 in
theorem ggX3_tell_X3_hisBits : GoodIn wsX3_tell wsX3_hisBits := goodIn_r _ [7, 8, 9, 46, 47, 48, 49, 50, 51, 52, 53, 54, 55, 56, 57, 58, 59, 60, 61, 62, 63, 64, 65, 66, 67, 68, 69] (by decide +kernel) (by decide +kernel)
set_option maxRecDepth 20000 in
theorem gX3_tell_X3_hisBits : GoodIn wsX3_tell (wsV RX3 84 RX3 yX3_hisBits wsX3_hisBits) := goodIn_app (goodIn_of _ (by decide +kernel)) ggX3_tell_X3_hisBits
set_option maxRecDepth 20000 in
theorem ggX3_tell_X3_heldBits : GoodIn wsX3_tell wsX3_heldBits := goodIn_r _ [13, 8, 9, 14, 3, 4, 5, 6, 7, 46, 47, 48, 49, 50, 51, 52, 53, 54, 55, 56, 57, 58, 59, 60, 61, 62, 63, 64, 65, 66, 67, 68, 69] (by decide +kernel) (by decide +kernel)
set_option maxRecDepth 20000 in
theorem gX3_tell_X3_heldBits : GoodIn wsX3_tell (wsV RX3 107 RX3 yX3_heldBits wsX3_heldBits) := goodIn_app (goodIn_of _ (by decide +kernel)) ggX3_tell_X3_heldBits
set_option maxRecDepth 20000 in
theorem ggX3_tell_X3_lordOf : GoodIn wsX3_tell wsX3_lordOf := goodIn_r _ [18, 1, 19, 46, 47, 48, 49, 50, 51, 52, 53, 54, 55, 56, 57, 58, 59, 60, 61, 62, 63, 64, 65, 66, 67, 68, 69] (by decide +kernel) (by decide +kernel)
set_option maxRecDepth 20000 in
theorem gX3_tell_X3_lordOf : GoodIn wsX3_tell (wsV RX3 88 RX3 yX3_lordOf wsX3_lordOf) := goodIn_app (goodIn_of _ (by decide +kernel)) ggX3_tell_X3_lordOf
set_option maxRecDepth 20000 in
theorem ggX3_tell_X3_churchOf : GoodIn wsX3_tell wsX3_churchOf := goodIn_r _ [23, 1, 24, 46, 47, 48, 49, 50, 51, 52, 53, 54, 55, 56, 57, 58, 59, 60, 61, 62, 63, 64, 65, 66, 67, 68, 69] (by decide +kernel) (by decide +kernel)
set_option maxRecDepth 20000 in
theorem gX3_tell_X3_churchOf : GoodIn wsX3_tell (wsV RX3 91 RX3 yX3_churchOf wsX3_churchOf) := goodIn_app (goodIn_of _ (by decide +kernel)) ggX3_tell_X3_churchOf
set_option maxRecDepth 20000 in
theorem ggX3_tell_X3_lives : GoodIn wsX3_tell wsX3_lives := goodIn_r _ [28, 1, 46, 47, 48, 49, 50, 51, 52, 53, 54, 55, 56, 57, 58, 59, 60, 61, 62, 63, 64, 65, 66, 67, 68, 69] (by decide +kernel) (by decide +kernel)
set_option maxRecDepth 20000 in
theorem gX3_tell_X3_lives : GoodIn wsX3_tell (wsV RX3 110 RX3 yX3_lives wsX3_lives) := goodIn_app (goodIn_of _ (by decide +kernel)) ggX3_tell_X3_lives
set_option maxRecDepth 20000 in
theorem ggX3_tell_X3_lossBy : GoodIn wsX3_tell wsX3_lossBy := goodIn_r _ [32, 33, 34, 35, 6, 36, 15, 16, 17, 18, 1, 19, 20, 21, 22, 23, 24, 37, 38, 39, 40, 8, 9, 41, 42, 43, 44, 45, 46, 47, 48, 49, 50, 51, 52, 53, 54, 55, 56, 57, 58, 59, 60, 61, 62, 63, 64, 65, 66, 67, 68, 69] (by decide +kernel) (by decide +kernel)
set_option maxRecDepth 20000 in
theorem gX3_tell_X3_lossBy : GoodIn wsX3_tell (wsV RX3 114 RX3 yX3_lossBy wsX3_lossBy) := goodIn_app (goodIn_of _ (by decide +kernel)) ggX3_tell_X3_lossBy
theorem dX3_tell_0 : decode cX3_tell 0 = .ok (.iload_n 2, 1) := by decide +kernel
theorem dX3_tell_1 : decode cX3_tell 1 = .ok (.tableswitch 117 0 8 #[51, 51, 51, 51, 62, 68, 78, 84, 90], 51) := by decide +kernel
theorem dX3_tell_52 : decode cX3_tell 52 = .ok (.aload_n 0, 1) := by decide +kernel
theorem dX3_tell_53 : decode cX3_tell 53 = .ok (.getfield 13, 3) := by decide +kernel
theorem dX3_tell_56 : decode cX3_tell 56 = .ok (.iconst 4, 1) := by decide +kernel
theorem dX3_tell_57 : decode cX3_tell 57 = .ok (.iload_n 1, 1) := by decide +kernel
theorem dX3_tell_58 : decode cX3_tell 58 = .ok (.imul, 1) := by decide +kernel
theorem dX3_tell_59 : decode cX3_tell 59 = .ok (.iload_n 2, 1) := by decide +kernel
theorem dX3_tell_60 : decode cX3_tell 60 = .ok (.iadd, 1) := by decide +kernel
theorem dX3_tell_61 : decode cX3_tell 61 = .ok (.iaload, 1) := by decide +kernel
theorem dX3_tell_62 : decode cX3_tell 62 = .ok (.ireturn, 1) := by decide +kernel
theorem dX3_tell_63 : decode cX3_tell 63 = .ok (.aload_n 0, 1) := by decide +kernel
theorem dX3_tell_64 : decode cX3_tell 64 = .ok (.iload_n 1, 1) := by decide +kernel
theorem dX3_tell_65 : decode cX3_tell 65 = .ok (.invokevirtual 84, 3) := by decide +kernel
theorem dX3_tell_68 : decode cX3_tell 68 = .ok (.ireturn, 1) := by decide +kernel
theorem dX3_tell_69 : decode cX3_tell 69 = .ok (.aload_n 0, 1) := by decide +kernel
theorem dX3_tell_70 : decode cX3_tell 70 = .ok (.iload_n 1, 1) := by decide +kernel
theorem dX3_tell_71 : decode cX3_tell 71 = .ok (.aload_n 0, 1) := by decide +kernel
theorem dX3_tell_72 : decode cX3_tell 72 = .ok (.getfield 104, 3) := by decide +kernel
theorem dX3_tell_75 : decode cX3_tell 75 = .ok (.invokevirtual 107, 3) := by decide +kernel
theorem dX3_tell_78 : decode cX3_tell 78 = .ok (.ireturn, 1) := by decide +kernel
theorem dX3_tell_79 : decode cX3_tell 79 = .ok (.aload_n 0, 1) := by decide +kernel
theorem dX3_tell_80 : decode cX3_tell 80 = .ok (.iload_n 1, 1) := by decide +kernel
theorem dX3_tell_81 : decode cX3_tell 81 = .ok (.invokevirtual 88, 3) := by decide +kernel
theorem dX3_tell_84 : decode cX3_tell 84 = .ok (.ireturn, 1) := by decide +kernel
theorem dX3_tell_85 : decode cX3_tell 85 = .ok (.aload_n 0, 1) := by decide +kernel
theorem dX3_tell_86 : decode cX3_tell 86 = .ok (.iload_n 1, 1) := by decide +kernel
theorem dX3_tell_87 : decode cX3_tell 87 = .ok (.invokevirtual 91, 3) := by decide +kernel
theorem dX3_tell_90 : decode cX3_tell 90 = .ok (.ireturn, 1) := by decide +kernel
theorem dX3_tell_91 : decode cX3_tell 91 = .ok (.aload_n 0, 1) := by decide +kernel
theorem dX3_tell_92 : decode cX3_tell 92 = .ok (.iload_n 1, 1) := by decide +kernel
theorem dX3_tell_93 : decode cX3_tell 93 = .ok (.invokevirtual 110, 3) := by decide +kernel
theorem dX3_tell_96 : decode cX3_tell 96 = .ok (.ifCond .eq 20, 3) := by decide +kernel
theorem dX3_tell_99 : decode cX3_tell 99 = .ok (.aload_n 0, 1) := by decide +kernel
theorem dX3_tell_100 : decode cX3_tell 100 = .ok (.iload_n 1, 1) := by decide +kernel
theorem dX3_tell_101 : decode cX3_tell 101 = .ok (.aload_n 0, 1) := by decide +kernel
theorem dX3_tell_102 : decode cX3_tell 102 = .ok (.iload_n 1, 1) := by decide +kernel
theorem dX3_tell_103 : decode cX3_tell 103 = .ok (.aload_n 0, 1) := by decide +kernel
theorem dX3_tell_104 : decode cX3_tell 104 = .ok (.getfield 104, 3) := by decide +kernel
theorem dX3_tell_107 : decode cX3_tell 107 = .ok (.invokevirtual 107, 3) := by decide +kernel
theorem dX3_tell_110 : decode cX3_tell 110 = .ok (.invokevirtual 114, 3) := by decide +kernel
theorem dX3_tell_113 : decode cX3_tell 113 = .ok (.goto 4, 3) := by decide +kernel
theorem dX3_tell_116 : decode cX3_tell 116 = .ok (.iconst 0, 1) := by decide +kernel
theorem dX3_tell_117 : decode cX3_tell 117 = .ok (.ireturn, 1) := by decide +kernel
theorem dX3_tell_118 : decode cX3_tell 118 = .ok (.bipush (-102), 2) := by decide +kernel
theorem dX3_tell_120 : decode cX3_tell 120 = .ok (.ireturn, 1) := by decide +kernel
set_option maxRecDepth 20000 in
theorem ggX3_about_X3_isHolder : GoodIn wsX3_about wsX3_isHolder := goodIn_r _ [5, 6, 7, 8, 4, 9, 58, 59, 60, 61, 62, 63, 64, 65, 66, 67, 68, 69, 70, 71, 72, 73, 74, 75, 76, 77, 78, 79, 80, 81] (by decide +kernel) (by decide +kernel)
set_option maxRecDepth 20000 in
theorem gX3_about_X3_isHolder : GoodIn wsX3_about (wsV RX3 117 RX3 yX3_isHolder wsX3_isHolder) := goodIn_app (goodIn_of _ (by decide +kernel)) ggX3_about_X3_isHolder
set_option maxRecDepth 20000 in
theorem ggX3_about_X3_tell : GoodIn wsX3_about wsX3_tell := goodIn_r _ [13, 14, 15, 16, 17, 18, 4, 19, 20, 21, 22, 23, 24, 25, 26, 27, 28, 29, 30, 31, 32, 33, 34, 35, 36, 37, 38, 39, 40, 41, 42, 43, 44, 45, 46, 47, 48, 49, 50, 51, 52, 53, 54, 55, 56, 57, 58, 59, 60, 61, 62, 63, 64, 65, 66, 67, 68, 69, 70, 71, 72, 73, 74, 75, 76, 77, 78, 79, 80, 81] (by decide +kernel) (by decide +kernel)
set_option maxRecDepth 20000 in
theorem gX3_about_X3_tell : GoodIn wsX3_about (wsV RX3 120 RX3 yX3_tell wsX3_tell) := goodIn_app (goodIn_of _ (by decide +kernel)) ggX3_about_X3_tell
theorem dX3_about_0 : decode cX3_about 0 = .ok (.aload_n 0, 1) := by decide +kernel
theorem dX3_about_1 : decode cX3_about 1 = .ok (.iload_n 1, 1) := by decide +kernel
theorem dX3_about_2 : decode cX3_about 2 = .ok (.invokevirtual 117, 3) := by decide +kernel
theorem dX3_about_5 : decode cX3_about 5 = .ok (.ifCond .eq 12, 3) := by decide +kernel
theorem dX3_about_8 : decode cX3_about 8 = .ok (.aload_n 0, 1) := by decide +kernel
theorem dX3_about_9 : decode cX3_about 9 = .ok (.iload_n 1, 1) := by decide +kernel
theorem dX3_about_10 : decode cX3_about 10 = .ok (.iload_n 2, 1) := by decide +kernel
theorem dX3_about_11 : decode cX3_about 11 = .ok (.invokevirtual 120, 3) := by decide +kernel
theorem dX3_about_14 : decode cX3_about 14 = .ok (.goto 5, 3) := by decide +kernel
theorem dX3_about_17 : decode cX3_about 17 = .ok (.bipush (-101), 2) := by decide +kernel
theorem dX3_about_19 : decode cX3_about 19 = .ok (.ireturn, 1) := by decide +kernel
set_option maxRecDepth 20000 in
theorem ggX3_as_X3_isHolder : GoodIn wsX3_as wsX3_isHolder := goodIn_r _ [7, 8, 9, 10, 6, 11, 12, 13, 14, 15, 16, 17, 18, 19, 20, 21, 22, 23, 24, 25, 26, 27, 28, 29, 30, 31, 32, 33, 34, 35] (by decide +kernel) (by decide +kernel)
set_option maxRecDepth 20000 in
theorem gX3_as_X3_isHolder : GoodIn wsX3_as (wsV RX3 117 RX3 yX3_isHolder wsX3_isHolder) := goodIn_app (goodIn_of _ (by decide +kernel)) ggX3_as_X3_isHolder
set_option maxRecDepth 20000 in
theorem ggX3_as_X3_in : GoodIn wsX3_as wsX3_in := goodIn_r _ [11] (by decide +kernel) (by decide +kernel)
set_option maxRecDepth 20000 in
theorem gX3_as_X3_in : GoodIn wsX3_as (va_wsS RX3 49 yX3_in wsX3_in) := goodIn_app (goodIn_of _ (by decide +kernel)) ggX3_as_X3_in
theorem dX3_as_0 : decode cX3_as 0 = .ok (.aload_n 0, 1) := by decide +kernel
theorem dX3_as_1 : decode cX3_as 1 = .ok (.iload_n 1, 1) := by decide +kernel
theorem dX3_as_2 : decode cX3_as 2 = .ok (.invokevirtual 117, 3) := by decide +kernel
theorem dX3_as_5 : decode cX3_as 5 = .ok (.ifCond .ne 6, 3) := by decide +kernel
theorem dX3_as_8 : decode cX3_as 8 = .ok (.bipush (-101), 2) := by decide +kernel
theorem dX3_as_10 : decode cX3_as 10 = .ok (.ireturn, 1) := by decide +kernel
theorem dX3_as_11 : decode cX3_as 11 = .ok (.iload_n 2, 1) := by decide +kernel
theorem dX3_as_12 : decode cX3_as 12 = .ok (.i2l, 1) := by decide +kernel
theorem dX3_as_13 : decode cX3_as 13 = .ok (.lconst 0, 1) := by decide +kernel
theorem dX3_as_14 : decode cX3_as 14 = .ok (.ldc2_w 82, 3) := by decide +kernel
theorem dX3_as_17 : decode cX3_as 17 = .ok (.invokestatic 49, 3) := by decide +kernel
theorem dX3_as_20 : decode cX3_as 20 = .ok (.ifCond .ne 6, 3) := by decide +kernel
theorem dX3_as_23 : decode cX3_as 23 = .ok (.bipush (-102), 2) := by decide +kernel
theorem dX3_as_25 : decode cX3_as 25 = .ok (.ireturn, 1) := by decide +kernel
theorem dX3_as_26 : decode cX3_as 26 = .ok (.aload_n 0, 1) := by decide +kernel
theorem dX3_as_27 : decode cX3_as 27 = .ok (.getfield 13, 3) := by decide +kernel
theorem dX3_as_30 : decode cX3_as 30 = .ok (.iconst 4, 1) := by decide +kernel
theorem dX3_as_31 : decode cX3_as 31 = .ok (.iload_n 1, 1) := by decide +kernel
theorem dX3_as_32 : decode cX3_as 32 = .ok (.imul, 1) := by decide +kernel
theorem dX3_as_33 : decode cX3_as 33 = .ok (.iaload, 1) := by decide +kernel
theorem dX3_as_34 : decode cX3_as 34 = .ok (.istore_n 3, 1) := by decide +kernel
theorem dX3_as_35 : decode cX3_as 35 = .ok (.iload_n 2, 1) := by decide +kernel
theorem dX3_as_36 : decode cX3_as 36 = .ok (.ifCond .eq 18, 3) := by decide +kernel
theorem dX3_as_39 : decode cX3_as 39 = .ok (.iload_n 2, 1) := by decide +kernel
theorem dX3_as_40 : decode cX3_as 40 = .ok (.iload_n 3, 1) := by decide +kernel
theorem dX3_as_41 : decode cX3_as 41 = .ok (.if_icmp .eq 13, 3) := by decide +kernel
theorem dX3_as_44 : decode cX3_as 44 = .ok (.iload_n 2, 1) := by decide +kernel
theorem dX3_as_45 : decode cX3_as 45 = .ok (.iconst 3, 1) := by decide +kernel
theorem dX3_as_46 : decode cX3_as 46 = .ok (.if_icmp .ne 12, 3) := by decide +kernel
theorem dX3_as_49 : decode cX3_as 49 = .ok (.iload_n 3, 1) := by decide +kernel
theorem dX3_as_50 : decode cX3_as 50 = .ok (.iconst 4, 1) := by decide +kernel
theorem dX3_as_51 : decode cX3_as 51 = .ok (.if_icmp .ne 7, 3) := by decide +kernel
theorem dX3_as_54 : decode cX3_as 54 = .ok (.iconst 1, 1) := by decide +kernel
theorem dX3_as_55 : decode cX3_as 55 = .ok (.goto 4, 3) := by decide +kernel
theorem dX3_as_58 : decode cX3_as 58 = .ok (.iconst 0, 1) := by decide +kernel
theorem dX3_as_59 : decode cX3_as 59 = .ok (.istore 4, 2) := by decide +kernel
theorem dX3_as_61 : decode cX3_as 61 = .ok (.iload 4, 2) := by decide +kernel
theorem dX3_as_63 : decode cX3_as 63 = .ok (.ifCond .eq 7, 3) := by decide +kernel
theorem dX3_as_66 : decode cX3_as 66 = .ok (.iload_n 1, 1) := by decide +kernel
theorem dX3_as_67 : decode cX3_as 67 = .ok (.goto 4, 3) := by decide +kernel
theorem dX3_as_70 : decode cX3_as 70 = .ok (.iconst (-1), 1) := by decide +kernel
theorem dX3_as_71 : decode cX3_as 71 = .ok (.ireturn, 1) := by decide +kernel
set_option maxRecDepth 20000 in
theorem ggX3_heir_X3_isHolder : GoodIn wsX3_heir wsX3_isHolder := goodIn_r _ [6, 7, 8, 9, 5, 10, 11, 12, 13, 14, 15, 16, 17, 18, 19, 20, 21, 22, 23, 24, 25, 26, 27, 28, 29, 30, 31, 32, 33, 34] (by decide +kernel) (by decide +kernel)
set_option maxRecDepth 20000 in
theorem gX3_heir_X3_isHolder : GoodIn wsX3_heir (wsV RX3 117 RX3 yX3_isHolder wsX3_isHolder) := goodIn_app (goodIn_of _ (by decide +kernel)) ggX3_heir_X3_isHolder
theorem dX3_heir_0 : decode cX3_heir 0 = .ok (.aload_n 0, 1) := by decide +kernel
theorem dX3_heir_1 : decode cX3_heir 1 = .ok (.iload_n 1, 1) := by decide +kernel
theorem dX3_heir_2 : decode cX3_heir 2 = .ok (.invokevirtual 117, 3) := by decide +kernel
theorem dX3_heir_5 : decode cX3_heir 5 = .ok (.ifCond .eq 21, 3) := by decide +kernel
theorem dX3_heir_8 : decode cX3_heir 8 = .ok (.iload_n 2, 1) := by decide +kernel
theorem dX3_heir_9 : decode cX3_heir 9 = .ok (.iconst (-1), 1) := by decide +kernel
theorem dX3_heir_10 : decode cX3_heir 10 = .ok (.if_icmp .eq 11, 3) := by decide +kernel
theorem dX3_heir_13 : decode cX3_heir 13 = .ok (.aload_n 0, 1) := by decide +kernel
theorem dX3_heir_14 : decode cX3_heir 14 = .ok (.iload_n 2, 1) := by decide +kernel
theorem dX3_heir_15 : decode cX3_heir 15 = .ok (.invokevirtual 117, 3) := by decide +kernel
theorem dX3_heir_18 : decode cX3_heir 18 = .ok (.ifCond .eq 8, 3) := by decide +kernel
theorem dX3_heir_21 : decode cX3_heir 21 = .ok (.iload_n 1, 1) := by decide +kernel
theorem dX3_heir_22 : decode cX3_heir 22 = .ok (.iload_n 2, 1) := by decide +kernel
theorem dX3_heir_23 : decode cX3_heir 23 = .ok (.if_icmp .ne 6, 3) := by decide +kernel
theorem dX3_heir_26 : decode cX3_heir 26 = .ok (.bipush (-101), 2) := by decide +kernel
theorem dX3_heir_28 : decode cX3_heir 28 = .ok (.ireturn, 1) := by decide +kernel
theorem dX3_heir_29 : decode cX3_heir 29 = .ok (.aload_n 0, 1) := by decide +kernel
theorem dX3_heir_30 : decode cX3_heir 30 = .ok (.getfield 13, 3) := by decide +kernel
theorem dX3_heir_33 : decode cX3_heir 33 = .ok (.iconst 4, 1) := by decide +kernel
theorem dX3_heir_34 : decode cX3_heir 34 = .ok (.iload_n 1, 1) := by decide +kernel
theorem dX3_heir_35 : decode cX3_heir 35 = .ok (.imul, 1) := by decide +kernel
theorem dX3_heir_36 : decode cX3_heir 36 = .ok (.iconst 3, 1) := by decide +kernel
theorem dX3_heir_37 : decode cX3_heir 37 = .ok (.iadd, 1) := by decide +kernel
theorem dX3_heir_38 : decode cX3_heir 38 = .ok (.iaload, 1) := by decide +kernel
theorem dX3_heir_39 : decode cX3_heir 39 = .ok (.istore_n 3, 1) := by decide +kernel
theorem dX3_heir_40 : decode cX3_heir 40 = .ok (.aload_n 0, 1) := by decide +kernel
theorem dX3_heir_41 : decode cX3_heir 41 = .ok (.getfield 13, 3) := by decide +kernel
theorem dX3_heir_44 : decode cX3_heir 44 = .ok (.iconst 4, 1) := by decide +kernel
theorem dX3_heir_45 : decode cX3_heir 45 = .ok (.iload_n 1, 1) := by decide +kernel
theorem dX3_heir_46 : decode cX3_heir 46 = .ok (.imul, 1) := by decide +kernel
theorem dX3_heir_47 : decode cX3_heir 47 = .ok (.iconst 3, 1) := by decide +kernel
theorem dX3_heir_48 : decode cX3_heir 48 = .ok (.iadd, 1) := by decide +kernel
theorem dX3_heir_49 : decode cX3_heir 49 = .ok (.iload_n 2, 1) := by decide +kernel
theorem dX3_heir_50 : decode cX3_heir 50 = .ok (.iastore, 1) := by decide +kernel
theorem dX3_heir_51 : decode cX3_heir 51 = .ok (.iload_n 3, 1) := by decide +kernel
theorem dX3_heir_52 : decode cX3_heir 52 = .ok (.ireturn, 1) := by decide +kernel
set_option maxRecDepth 20000 in
theorem ggX3_beast_X3_isHolder : GoodIn wsX3_beast wsX3_isHolder := goodIn_r _ [8, 9, 10, 11, 7, 12, 22, 23, 24, 25, 26, 27, 28, 29, 30, 31, 32, 33, 34, 35, 36, 37, 38, 39, 40, 41, 42, 43, 44, 45] (by decide +kernel) (by decide +kernel)
set_option maxRecDepth 20000 in
theorem gX3_beast_X3_isHolder : GoodIn wsX3_beast (wsV RX3 117 RX3 yX3_isHolder wsX3_isHolder) := goodIn_app (goodIn_of _ (by decide +kernel)) ggX3_beast_X3_isHolder
set_option maxRecDepth 20000 in
theorem ggX3_beast_X3_in : GoodIn wsX3_beast wsX3_in := goodIn_r _ [12] (by decide +kernel) (by decide +kernel)
set_option maxRecDepth 20000 in
theorem gX3_beast_X3_in : GoodIn wsX3_beast (va_wsS RX3 49 yX3_in wsX3_in) := goodIn_app (goodIn_of _ (by decide +kernel)) ggX3_beast_X3_in
set_option maxRecDepth 20000 in
theorem ggX3_beast_X3_lives : GoodIn wsX3_beast wsX3_lives := goodIn_r _ [16, 17, 22, 23, 24, 25, 26, 27, 28, 29, 30, 31, 32, 33, 34, 35, 36, 37, 38, 39, 40, 41, 42, 43, 44, 45] (by decide +kernel) (by decide +kernel)
set_option maxRecDepth 20000 in
theorem gX3_beast_X3_lives : GoodIn wsX3_beast (wsV RX3 110 RX3 yX3_lives wsX3_lives) := goodIn_app (goodIn_of _ (by decide +kernel)) ggX3_beast_X3_lives
set_option maxRecDepth 20000 in
theorem ggX3_beast_X3_lay : GoodIn wsX3_beast wsX3_lay := goodIn_r _ [21, 3, 22, 23, 24, 25, 26, 27, 28, 29, 30, 31, 32, 33, 34, 35, 36, 37, 38, 39, 40, 41, 42, 43, 44, 45] (by decide +kernel) (by decide +kernel)
set_option maxRecDepth 20000 in
theorem gX3_beast_X3_lay : GoodIn wsX3_beast (wsV RX3 125 RX3 yX3_lay wsX3_lay) := goodIn_app (goodIn_of _ (by decide +kernel)) ggX3_beast_X3_lay
theorem dX3_beast_0 : decode cX3_beast 0 = .ok (.aload_n 0, 1) := by decide +kernel
theorem dX3_beast_1 : decode cX3_beast 1 = .ok (.iload_n 1, 1) := by decide +kernel
theorem dX3_beast_2 : decode cX3_beast 2 = .ok (.invokevirtual 117, 3) := by decide +kernel
theorem dX3_beast_5 : decode cX3_beast 5 = .ok (.ifCond .ne 6, 3) := by decide +kernel
theorem dX3_beast_8 : decode cX3_beast 8 = .ok (.bipush (-101), 2) := by decide +kernel
theorem dX3_beast_10 : decode cX3_beast 10 = .ok (.ireturn, 1) := by decide +kernel
theorem dX3_beast_11 : decode cX3_beast 11 = .ok (.iload_n 2, 1) := by decide +kernel
theorem dX3_beast_12 : decode cX3_beast 12 = .ok (.i2l, 1) := by decide +kernel
theorem dX3_beast_13 : decode cX3_beast 13 = .ok (.lconst 1, 1) := by decide +kernel
theorem dX3_beast_14 : decode cX3_beast 14 = .ok (.ldc2_w 123, 3) := by decide +kernel
theorem dX3_beast_17 : decode cX3_beast 17 = .ok (.invokestatic 49, 3) := by decide +kernel
theorem dX3_beast_20 : decode cX3_beast 20 = .ok (.ifCond .ne 6, 3) := by decide +kernel
theorem dX3_beast_23 : decode cX3_beast 23 = .ok (.bipush (-102), 2) := by decide +kernel
theorem dX3_beast_25 : decode cX3_beast 25 = .ok (.ireturn, 1) := by decide +kernel
theorem dX3_beast_26 : decode cX3_beast 26 = .ok (.aload_n 0, 1) := by decide +kernel
theorem dX3_beast_27 : decode cX3_beast 27 = .ok (.iload_n 1, 1) := by decide +kernel
theorem dX3_beast_28 : decode cX3_beast 28 = .ok (.invokevirtual 110, 3) := by decide +kernel
theorem dX3_beast_31 : decode cX3_beast 31 = .ok (.ifCond .ne 6, 3) := by decide +kernel
theorem dX3_beast_34 : decode cX3_beast 34 = .ok (.bipush (-103), 2) := by decide +kernel
theorem dX3_beast_36 : decode cX3_beast 36 = .ok (.ireturn, 1) := by decide +kernel
theorem dX3_beast_37 : decode cX3_beast 37 = .ok (.aload_n 0, 1) := by decide +kernel
theorem dX3_beast_38 : decode cX3_beast 38 = .ok (.getfield 79, 3) := by decide +kernel
theorem dX3_beast_41 : decode cX3_beast 41 = .ok (.bipush 6, 2) := by decide +kernel
theorem dX3_beast_43 : decode cX3_beast 43 = .ok (.if_icmp .ne 6, 3) := by decide +kernel
theorem dX3_beast_46 : decode cX3_beast 46 = .ok (.bipush (-104), 2) := by decide +kernel
theorem dX3_beast_48 : decode cX3_beast 48 = .ok (.ireturn, 1) := by decide +kernel
theorem dX3_beast_49 : decode cX3_beast 49 = .ok (.aload_n 0, 1) := by decide +kernel
theorem dX3_beast_50 : decode cX3_beast 50 = .ok (.getfield 16, 3) := by decide +kernel
theorem dX3_beast_53 : decode cX3_beast 53 = .ok (.iconst 5, 1) := by decide +kernel
theorem dX3_beast_54 : decode cX3_beast 54 = .ok (.aload_n 0, 1) := by decide +kernel
theorem dX3_beast_55 : decode cX3_beast 55 = .ok (.getfield 79, 3) := by decide +kernel
theorem dX3_beast_58 : decode cX3_beast 58 = .ok (.imul, 1) := by decide +kernel
theorem dX3_beast_59 : decode cX3_beast 59 = .ok (.iload_n 2, 1) := by decide +kernel
theorem dX3_beast_60 : decode cX3_beast 60 = .ok (.iastore, 1) := by decide +kernel
theorem dX3_beast_61 : decode cX3_beast 61 = .ok (.aload_n 0, 1) := by decide +kernel
theorem dX3_beast_62 : decode cX3_beast 62 = .ok (.getfield 16, 3) := by decide +kernel
theorem dX3_beast_65 : decode cX3_beast 65 = .ok (.iconst 5, 1) := by decide +kernel
theorem dX3_beast_66 : decode cX3_beast 66 = .ok (.aload_n 0, 1) := by decide +kernel
theorem dX3_beast_67 : decode cX3_beast 67 = .ok (.getfield 79, 3) := by decide +kernel
theorem dX3_beast_70 : decode cX3_beast 70 = .ok (.imul, 1) := by decide +kernel
theorem dX3_beast_71 : decode cX3_beast 71 = .ok (.iconst 4, 1) := by decide +kernel
theorem dX3_beast_72 : decode cX3_beast 72 = .ok (.iadd, 1) := by decide +kernel
theorem dX3_beast_73 : decode cX3_beast 73 = .ok (.iconst (-1), 1) := by decide +kernel
theorem dX3_beast_74 : decode cX3_beast 74 = .ok (.iastore, 1) := by decide +kernel
theorem dX3_beast_75 : decode cX3_beast 75 = .ok (.aload_n 0, 1) := by decide +kernel
theorem dX3_beast_76 : decode cX3_beast 76 = .ok (.aload_n 0, 1) := by decide +kernel
theorem dX3_beast_77 : decode cX3_beast 77 = .ok (.getfield 79, 3) := by decide +kernel
theorem dX3_beast_80 : decode cX3_beast 80 = .ok (.iload_n 1, 1) := by decide +kernel
theorem dX3_beast_81 : decode cX3_beast 81 = .ok (.iconst (-1), 1) := by decide +kernel
theorem dX3_beast_82 : decode cX3_beast 82 = .ok (.iconst (-1), 1) := by decide +kernel
theorem dX3_beast_83 : decode cX3_beast 83 = .ok (.invokevirtual 125, 3) := by decide +kernel
theorem dX3_beast_86 : decode cX3_beast 86 = .ok (.aload_n 0, 1) := by decide +kernel
theorem dX3_beast_87 : decode cX3_beast 87 = .ok (.dup, 1) := by decide +kernel
theorem dX3_beast_88 : decode cX3_beast 88 = .ok (.getfield 79, 3) := by decide +kernel
theorem dX3_beast_91 : decode cX3_beast 91 = .ok (.iconst 1, 1) := by decide +kernel
theorem dX3_beast_92 : decode cX3_beast 92 = .ok (.iadd, 1) := by decide +kernel
theorem dX3_beast_93 : decode cX3_beast 93 = .ok (.putfield 79, 3) := by decide +kernel
theorem dX3_beast_96 : decode cX3_beast 96 = .ok (.aload_n 0, 1) := by decide +kernel
theorem dX3_beast_97 : decode cX3_beast 97 = .ok (.getfield 79, 3) := by decide +kernel
theorem dX3_beast_100 : decode cX3_beast 100 = .ok (.iconst 1, 1) := by decide +kernel
theorem dX3_beast_101 : decode cX3_beast 101 = .ok (.isub, 1) := by decide +kernel
theorem dX3_beast_102 : decode cX3_beast 102 = .ok (.ireturn, 1) := by decide +kernel
theorem dX3_lay_0 : decode cX3_lay 0 = .ok (.aload_n 0, 1) := by decide +kernel
theorem dX3_lay_1 : decode cX3_lay 1 = .ok (.getfield 16, 3) := by decide +kernel
theorem dX3_lay_4 : decode cX3_lay 4 = .ok (.iconst 5, 1) := by decide +kernel
theorem dX3_lay_5 : decode cX3_lay 5 = .ok (.iload_n 1, 1) := by decide +kernel
theorem dX3_lay_6 : decode cX3_lay 6 = .ok (.imul, 1) := by decide +kernel
theorem dX3_lay_7 : decode cX3_lay 7 = .ok (.iconst 1, 1) := by decide +kernel
theorem dX3_lay_8 : decode cX3_lay 8 = .ok (.iadd, 1) := by decide +kernel
theorem dX3_lay_9 : decode cX3_lay 9 = .ok (.iload_n 2, 1) := by decide +kernel
theorem dX3_lay_10 : decode cX3_lay 10 = .ok (.iastore, 1) := by decide +kernel
theorem dX3_lay_11 : decode cX3_lay 11 = .ok (.aload_n 0, 1) := by decide +kernel
theorem dX3_lay_12 : decode cX3_lay 12 = .ok (.getfield 16, 3) := by decide +kernel
theorem dX3_lay_15 : decode cX3_lay 15 = .ok (.iconst 5, 1) := by decide +kernel
theorem dX3_lay_16 : decode cX3_lay 16 = .ok (.iload_n 1, 1) := by decide +kernel
theorem dX3_lay_17 : decode cX3_lay 17 = .ok (.imul, 1) := by decide +kernel
theorem dX3_lay_18 : decode cX3_lay 18 = .ok (.iconst 2, 1) := by decide +kernel
theorem dX3_lay_19 : decode cX3_lay 19 = .ok (.iadd, 1) := by decide +kernel
theorem dX3_lay_20 : decode cX3_lay 20 = .ok (.iload_n 3, 1) := by decide +kernel
theorem dX3_lay_21 : decode cX3_lay 21 = .ok (.iastore, 1) := by decide +kernel
theorem dX3_lay_22 : decode cX3_lay 22 = .ok (.aload_n 0, 1) := by decide +kernel
theorem dX3_lay_23 : decode cX3_lay 23 = .ok (.getfield 16, 3) := by decide +kernel
theorem dX3_lay_26 : decode cX3_lay 26 = .ok (.iconst 5, 1) := by decide +kernel
theorem dX3_lay_27 : decode cX3_lay 27 = .ok (.iload_n 1, 1) := by decide +kernel
theorem dX3_lay_28 : decode cX3_lay 28 = .ok (.imul, 1) := by decide +kernel
theorem dX3_lay_29 : decode cX3_lay 29 = .ok (.iconst 3, 1) := by decide +kernel
theorem dX3_lay_30 : decode cX3_lay 30 = .ok (.iadd, 1) := by decide +kernel
theorem dX3_lay_31 : decode cX3_lay 31 = .ok (.iload 4, 2) := by decide +kernel
theorem dX3_lay_33 : decode cX3_lay 33 = .ok (.iastore, 1) := by decide +kernel
theorem dX3_lay_34 : decode cX3_lay 34 = .ok (.return_, 1) := by decide +kernel
set_option maxRecDepth 20000 in
theorem ggX3_beastOf_X3_isBeast : GoodIn wsX3_beastOf wsX3_isBeast := goodIn_r _ [7, 8, 9, 10, 6, 11, 12, 13, 14, 15, 16, 17, 18, 19, 20, 21, 22, 23, 24, 25, 26, 27, 28, 29, 30, 31, 32, 33, 34, 35] (by decide +kernel) (by decide +kernel)
set_option maxRecDepth 20000 in
theorem gX3_beastOf_X3_isBeast : GoodIn wsX3_beastOf (wsV RX3 129 RX3 yX3_isBeast wsX3_isBeast) := goodIn_app (goodIn_of _ (by decide +kernel)) ggX3_beastOf_X3_isBeast
set_option maxRecDepth 20000 in
theorem ggX3_beastOf_X3_in : GoodIn wsX3_beastOf wsX3_in := goodIn_r _ [11] (by decide +kernel) (by decide +kernel)
set_option maxRecDepth 20000 in
theorem gX3_beastOf_X3_in : GoodIn wsX3_beastOf (va_wsS RX3 49 yX3_in wsX3_in) := goodIn_app (goodIn_of _ (by decide +kernel)) ggX3_beastOf_X3_in
theorem dX3_beastOf_0 : decode cX3_beastOf 0 = .ok (.aload_n 0, 1) := by decide +kernel
theorem dX3_beastOf_1 : decode cX3_beastOf 1 = .ok (.iload_n 1, 1) := by decide +kernel
theorem dX3_beastOf_2 : decode cX3_beastOf 2 = .ok (.invokevirtual 129, 3) := by decide +kernel
theorem dX3_beastOf_5 : decode cX3_beastOf 5 = .ok (.ifCond .ne 6, 3) := by decide +kernel
theorem dX3_beastOf_8 : decode cX3_beastOf 8 = .ok (.bipush (-101), 2) := by decide +kernel
theorem dX3_beastOf_10 : decode cX3_beastOf 10 = .ok (.ireturn, 1) := by decide +kernel
theorem dX3_beastOf_11 : decode cX3_beastOf 11 = .ok (.iload_n 2, 1) := by decide +kernel
theorem dX3_beastOf_12 : decode cX3_beastOf 12 = .ok (.i2l, 1) := by decide +kernel
theorem dX3_beastOf_13 : decode cX3_beastOf 13 = .ok (.lconst 0, 1) := by decide +kernel
theorem dX3_beastOf_14 : decode cX3_beastOf 14 = .ok (.ldc2_w 82, 3) := by decide +kernel
theorem dX3_beastOf_17 : decode cX3_beastOf 17 = .ok (.invokestatic 49, 3) := by decide +kernel
theorem dX3_beastOf_20 : decode cX3_beastOf 20 = .ok (.ifCond .eq 16, 3) := by decide +kernel
theorem dX3_beastOf_23 : decode cX3_beastOf 23 = .ok (.aload_n 0, 1) := by decide +kernel
theorem dX3_beastOf_24 : decode cX3_beastOf 24 = .ok (.getfield 16, 3) := by decide +kernel
theorem dX3_beastOf_27 : decode cX3_beastOf 27 = .ok (.iconst 5, 1) := by decide +kernel
theorem dX3_beastOf_28 : decode cX3_beastOf 28 = .ok (.iload_n 1, 1) := by decide +kernel
theorem dX3_beastOf_29 : decode cX3_beastOf 29 = .ok (.imul, 1) := by decide +kernel
theorem dX3_beastOf_30 : decode cX3_beastOf 30 = .ok (.iload_n 2, 1) := by decide +kernel
theorem dX3_beastOf_31 : decode cX3_beastOf 31 = .ok (.iadd, 1) := by decide +kernel
theorem dX3_beastOf_32 : decode cX3_beastOf 32 = .ok (.iaload, 1) := by decide +kernel
theorem dX3_beastOf_33 : decode cX3_beastOf 33 = .ok (.goto 5, 3) := by decide +kernel
theorem dX3_beastOf_36 : decode cX3_beastOf 36 = .ok (.bipush (-102), 2) := by decide +kernel
theorem dX3_beastOf_38 : decode cX3_beastOf 38 = .ok (.ireturn, 1) := by decide +kernel
set_option maxRecDepth 20000 in
theorem ggX3_mayGive_X3_lives : GoodIn wsX3_mayGive wsX3_lives := goodIn_r _ [6, 7, 8, 9, 10, 11, 12, 13, 14, 15, 16, 17, 18, 19, 20, 21, 22, 23, 24, 25, 26, 27, 28, 29, 30, 31] (by decide +kernel) (by decide +kernel)
set_option maxRecDepth 20000 in
theorem gX3_mayGive_X3_lives : GoodIn wsX3_mayGive (wsV RX3 110 RX3 yX3_lives wsX3_lives) := goodIn_app (goodIn_of _ (by decide +kernel)) ggX3_mayGive_X3_lives
theorem dX3_mayGive_0 : decode cX3_mayGive 0 = .ok (.aload_n 0, 1) := by decide +kernel
theorem dX3_mayGive_1 : decode cX3_mayGive 1 = .ok (.getfield 16, 3) := by decide +kernel
theorem dX3_mayGive_4 : decode cX3_mayGive 4 = .ok (.iconst 5, 1) := by decide +kernel
theorem dX3_mayGive_5 : decode cX3_mayGive 5 = .ok (.iload_n 1, 1) := by decide +kernel
theorem dX3_mayGive_6 : decode cX3_mayGive 6 = .ok (.imul, 1) := by decide +kernel
theorem dX3_mayGive_7 : decode cX3_mayGive 7 = .ok (.iconst 1, 1) := by decide +kernel
theorem dX3_mayGive_8 : decode cX3_mayGive 8 = .ok (.iadd, 1) := by decide +kernel
theorem dX3_mayGive_9 : decode cX3_mayGive 9 = .ok (.iaload, 1) := by decide +kernel
theorem dX3_mayGive_10 : decode cX3_mayGive 10 = .ok (.istore_n 3, 1) := by decide +kernel
theorem dX3_mayGive_11 : decode cX3_mayGive 11 = .ok (.iload_n 3, 1) := by decide +kernel
theorem dX3_mayGive_12 : decode cX3_mayGive 12 = .ok (.iconst (-1), 1) := by decide +kernel
theorem dX3_mayGive_13 : decode cX3_mayGive 13 = .ok (.if_icmp .eq 20, 3) := by decide +kernel
theorem dX3_mayGive_16 : decode cX3_mayGive 16 = .ok (.iload_n 3, 1) := by decide +kernel
theorem dX3_mayGive_17 : decode cX3_mayGive 17 = .ok (.iload_n 2, 1) := by decide +kernel
theorem dX3_mayGive_18 : decode cX3_mayGive 18 = .ok (.if_icmp .eq 15, 3) := by decide +kernel
theorem dX3_mayGive_21 : decode cX3_mayGive 21 = .ok (.aload_n 0, 1) := by decide +kernel
theorem dX3_mayGive_22 : decode cX3_mayGive 22 = .ok (.iload_n 2, 1) := by decide +kernel
theorem dX3_mayGive_23 : decode cX3_mayGive 23 = .ok (.invokevirtual 110, 3) := by decide +kernel
theorem dX3_mayGive_26 : decode cX3_mayGive 26 = .ok (.ifCond .eq 7, 3) := by decide +kernel
theorem dX3_mayGive_29 : decode cX3_mayGive 29 = .ok (.iconst 1, 1) := by decide +kernel
theorem dX3_mayGive_30 : decode cX3_mayGive 30 = .ok (.goto 4, 3) := by decide +kernel
theorem dX3_mayGive_33 : decode cX3_mayGive 33 = .ok (.iconst 0, 1) := by decide +kernel
theorem dX3_mayGive_34 : decode cX3_mayGive 34 = .ok (.ireturn, 1) := by decide +kernel
set_option maxRecDepth 20000 in
theorem ggX3_gives_X3_lay : GoodIn wsX3_gives wsX3_lay := goodIn_r _ [7, 1, 8, 9, 10, 11, 12, 13, 14, 15, 16, 17, 18, 19, 20, 21, 22, 23, 24, 25, 26, 27, 28, 29, 30, 31] (by decide +kernel) (by decide +kernel)
set_option maxRecDepth 20000 in
theorem gX3_gives_X3_lay : GoodIn wsX3_gives (wsV RX3 125 RX3 yX3_lay wsX3_lay) := goodIn_app (goodIn_of _ (by decide +kernel)) ggX3_gives_X3_lay
theorem dX3_gives_0 : decode cX3_gives 0 = .ok (.aload_n 0, 1) := by decide +kernel
theorem dX3_gives_1 : decode cX3_gives 1 = .ok (.iload_n 1, 1) := by decide +kernel
theorem dX3_gives_2 : decode cX3_gives 2 = .ok (.iload_n 2, 1) := by decide +kernel
theorem dX3_gives_3 : decode cX3_gives 3 = .ok (.aload_n 0, 1) := by decide +kernel
theorem dX3_gives_4 : decode cX3_gives 4 = .ok (.getfield 16, 3) := by decide +kernel
theorem dX3_gives_7 : decode cX3_gives 7 = .ok (.iconst 5, 1) := by decide +kernel
theorem dX3_gives_8 : decode cX3_gives 8 = .ok (.iload_n 1, 1) := by decide +kernel
theorem dX3_gives_9 : decode cX3_gives 9 = .ok (.imul, 1) := by decide +kernel
theorem dX3_gives_10 : decode cX3_gives 10 = .ok (.iconst 1, 1) := by decide +kernel
theorem dX3_gives_11 : decode cX3_gives 11 = .ok (.iadd, 1) := by decide +kernel
theorem dX3_gives_12 : decode cX3_gives 12 = .ok (.iaload, 1) := by decide +kernel
theorem dX3_gives_13 : decode cX3_gives 13 = .ok (.aload_n 0, 1) := by decide +kernel
theorem dX3_gives_14 : decode cX3_gives 14 = .ok (.getfield 104, 3) := by decide +kernel
theorem dX3_gives_17 : decode cX3_gives 17 = .ok (.invokevirtual 125, 3) := by decide +kernel
theorem dX3_gives_20 : decode cX3_gives 20 = .ok (.return_, 1) := by decide +kernel
set_option maxRecDepth 20000 in
theorem ggX3_give_X3_isBeast : GoodIn wsX3_give wsX3_isBeast := goodIn_r _ [6, 7, 8, 9, 5, 10, 34, 35, 36, 37, 38, 39, 40, 41, 42, 43, 44, 45, 46, 47, 48, 49, 50, 51, 52, 53, 54, 55, 56, 57] (by decide +kernel) (by decide +kernel)
set_option maxRecDepth 20000 in
theorem gX3_give_X3_isBeast : GoodIn wsX3_give (wsV RX3 129 RX3 yX3_isBeast wsX3_isBeast) := goodIn_app (goodIn_of _ (by decide +kernel)) ggX3_give_X3_isBeast
set_option maxRecDepth 20000 in
theorem ggX3_give_X3_isHolder : GoodIn wsX3_give wsX3_isHolder := goodIn_r _ [14, 15, 8, 9, 5, 10, 34, 35, 36, 37, 38, 39, 40, 41, 42, 43, 44, 45, 46, 47, 48, 49, 50, 51, 52, 53, 54, 55, 56, 57] (by decide +kernel) (by decide +kernel)
set_option maxRecDepth 20000 in
theorem gX3_give_X3_isHolder : GoodIn wsX3_give (wsV RX3 117 RX3 yX3_isHolder wsX3_isHolder) := goodIn_app (goodIn_of _ (by decide +kernel)) ggX3_give_X3_isHolder
set_option maxRecDepth 20000 in
theorem ggX3_give_X3_mayGive : GoodIn wsX3_give wsX3_mayGive := goodIn_r _ [19, 1, 20, 21, 22, 5, 23, 24, 34, 35, 36, 37, 38, 39, 40, 41, 42, 43, 44, 45, 46, 47, 48, 49, 50, 51, 52, 53, 54, 55, 56, 57] (by decide +kernel) (by decide +kernel)
set_option maxRecDepth 20000 in
theorem gX3_give_X3_mayGive : GoodIn wsX3_give (wsV RX3 132 RX3 yX3_mayGive wsX3_mayGive) := goodIn_app (goodIn_of _ (by decide +kernel)) ggX3_give_X3_mayGive
set_option maxRecDepth 20000 in
theorem ggX3_give_X3_gives : GoodIn wsX3_give wsX3_gives := goodIn_r _ [28, 1, 29, 30, 31, 32, 5, 33, 34, 35, 36, 37, 38, 39, 40, 41, 42, 43, 44, 45, 46, 47, 48, 49, 50, 51, 52, 53, 54, 55, 56, 57] (by decide +kernel) (by decide +kernel)
set_option maxRecDepth 20000 in
theorem gX3_give_X3_gives : GoodIn wsX3_give (wsV RX3 135 RX3 yX3_gives wsX3_gives) := goodIn_app (goodIn_of _ (by decide +kernel)) ggX3_give_X3_gives
theorem dX3_give_0 : decode cX3_give 0 = .ok (.aload_n 0, 1) := by decide +kernel
theorem dX3_give_1 : decode cX3_give 1 = .ok (.iload_n 1, 1) := by decide +kernel
theorem dX3_give_2 : decode cX3_give 2 = .ok (.invokevirtual 129, 3) := by decide +kernel
theorem dX3_give_5 : decode cX3_give 5 = .ok (.ifCond .eq 11, 3) := by decide +kernel
theorem dX3_give_8 : decode cX3_give 8 = .ok (.aload_n 0, 1) := by decide +kernel
theorem dX3_give_9 : decode cX3_give 9 = .ok (.iload_n 2, 1) := by decide +kernel
theorem dX3_give_10 : decode cX3_give 10 = .ok (.invokevirtual 117, 3) := by decide +kernel
theorem dX3_give_13 : decode cX3_give 13 = .ok (.ifCond .ne 6, 3) := by decide +kernel
theorem dX3_give_16 : decode cX3_give 16 = .ok (.bipush (-101), 2) := by decide +kernel
theorem dX3_give_18 : decode cX3_give 18 = .ok (.ireturn, 1) := by decide +kernel
theorem dX3_give_19 : decode cX3_give 19 = .ok (.aload_n 0, 1) := by decide +kernel
theorem dX3_give_20 : decode cX3_give 20 = .ok (.iload_n 1, 1) := by decide +kernel
theorem dX3_give_21 : decode cX3_give 21 = .ok (.iload_n 2, 1) := by decide +kernel
theorem dX3_give_22 : decode cX3_give 22 = .ok (.invokevirtual 132, 3) := by decide +kernel
theorem dX3_give_25 : decode cX3_give 25 = .ok (.ifCond .ne 6, 3) := by decide +kernel
theorem dX3_give_28 : decode cX3_give 28 = .ok (.bipush (-103), 2) := by decide +kernel
theorem dX3_give_30 : decode cX3_give 30 = .ok (.ireturn, 1) := by decide +kernel
theorem dX3_give_31 : decode cX3_give 31 = .ok (.aload_n 0, 1) := by decide +kernel
theorem dX3_give_32 : decode cX3_give 32 = .ok (.getfield 16, 3) := by decide +kernel
theorem dX3_give_35 : decode cX3_give 35 = .ok (.iconst 5, 1) := by decide +kernel
theorem dX3_give_36 : decode cX3_give 36 = .ok (.iload_n 1, 1) := by decide +kernel
theorem dX3_give_37 : decode cX3_give 37 = .ok (.imul, 1) := by decide +kernel
theorem dX3_give_38 : decode cX3_give 38 = .ok (.iconst 1, 1) := by decide +kernel
theorem dX3_give_39 : decode cX3_give 39 = .ok (.iadd, 1) := by decide +kernel
theorem dX3_give_40 : decode cX3_give 40 = .ok (.iaload, 1) := by decide +kernel
theorem dX3_give_41 : decode cX3_give 41 = .ok (.istore_n 3, 1) := by decide +kernel
theorem dX3_give_42 : decode cX3_give 42 = .ok (.aload_n 0, 1) := by decide +kernel
theorem dX3_give_43 : decode cX3_give 43 = .ok (.iload_n 1, 1) := by decide +kernel
theorem dX3_give_44 : decode cX3_give 44 = .ok (.iload_n 2, 1) := by decide +kernel
theorem dX3_give_45 : decode cX3_give 45 = .ok (.invokevirtual 135, 3) := by decide +kernel
theorem dX3_give_48 : decode cX3_give 48 = .ok (.iload_n 3, 1) := by decide +kernel
theorem dX3_give_49 : decode cX3_give 49 = .ok (.ireturn, 1) := by decide +kernel
set_option maxRecDepth 20000 in
theorem ggX3_dies_X3_heldBits : GoodIn wsX3_dies wsX3_heldBits := goodIn_r _ [9, 3, 4, 10, 11, 12, 13, 8, 14, 46, 47, 48, 49, 50, 51, 52, 53, 54, 55, 56, 57, 58, 59, 60, 61, 62, 63, 64, 65, 66, 67, 68, 69] (by decide +kernel) (by decide +kernel)
set_option maxRecDepth 20000 in
theorem gX3_dies_X3_heldBits : GoodIn wsX3_dies (wsV RX3 107 RX3 yX3_heldBits wsX3_heldBits) := goodIn_app (goodIn_of _ (by decide +kernel)) ggX3_dies_X3_heldBits
set_option maxRecDepth 20000 in
theorem ggX3_dies_X3_takenOf : GoodIn wsX3_dies wsX3_takenOf := goodIn_r _ [18, 19, 20, 21, 8, 22, 2, 23, 24, 25, 26, 27, 28, 29, 30, 31, 32, 3, 4, 33, 46, 47, 48, 49, 50, 51, 52, 53, 54, 55, 56, 57, 58, 59, 60, 61, 62, 63, 64, 65, 66, 67, 68, 69] (by decide +kernel) (by decide +kernel)
set_option maxRecDepth 20000 in
theorem gX3_dies_X3_takenOf : GoodIn wsX3_dies (wsV RX3 97 RX3 yX3_takenOf wsX3_takenOf) := goodIn_app (goodIn_of _ (by decide +kernel)) ggX3_dies_X3_takenOf
set_option maxRecDepth 20000 in
theorem ggX3_dies_X3_worthOf : GoodIn wsX3_dies wsX3_worthOf := goodIn_r _ [37, 3, 4, 46, 47, 48, 49, 50, 51, 52, 53, 54, 55, 56, 57, 58, 59, 60, 61, 62, 63, 64, 65, 66, 67, 68, 69] (by decide +kernel) (by decide +kernel)
set_option maxRecDepth 20000 in
theorem gX3_dies_X3_worthOf : GoodIn wsX3_dies (wsV RX3 101 RX3 yX3_worthOf wsX3_worthOf) := goodIn_app (goodIn_of _ (by decide +kernel)) ggX3_dies_X3_worthOf
set_option maxRecDepth 20000 in
theorem ggX3_dies_X3_lay : GoodIn wsX3_dies wsX3_lay := goodIn_r _ [41, 4, 46, 47, 48, 49, 50, 51, 52, 53, 54, 55, 56, 57, 58, 59, 60, 61, 62, 63, 64, 65, 66, 67, 68, 69] (by decide +kernel) (by decide +kernel)
set_option maxRecDepth 20000 in
theorem gX3_dies_X3_lay : GoodIn wsX3_dies (wsV RX3 125 RX3 yX3_lay wsX3_lay) := goodIn_app (goodIn_of _ (by decide +kernel)) ggX3_dies_X3_lay
set_option maxRecDepth 20000 in
theorem ggX3_dies_X3_lives : GoodIn wsX3_dies wsX3_lives := goodIn_r _ [45, 2, 46, 47, 48, 49, 50, 51, 52, 53, 54, 55, 56, 57, 58, 59, 60, 61, 62, 63, 64, 65, 66, 67, 68, 69] (by decide +kernel) (by decide +kernel)
set_option maxRecDepth 20000 in
theorem gX3_dies_X3_lives : GoodIn wsX3_dies (wsV RX3 110 RX3 yX3_lives wsX3_lives) := goodIn_app (goodIn_of _ (by decide +kernel)) ggX3_dies_X3_lives
theorem dX3_dies_0 : decode cX3_dies 0 = .ok (.aload_n 0, 1) := by decide +kernel
theorem dX3_dies_1 : decode cX3_dies 1 = .ok (.iload_n 1, 1) := by decide +kernel
theorem dX3_dies_2 : decode cX3_dies 2 = .ok (.aload_n 0, 1) := by decide +kernel
theorem dX3_dies_3 : decode cX3_dies 3 = .ok (.iload_n 1, 1) := by decide +kernel
theorem dX3_dies_4 : decode cX3_dies 4 = .ok (.aload_n 0, 1) := by decide +kernel
theorem dX3_dies_5 : decode cX3_dies 5 = .ok (.getfield 104, 3) := by decide +kernel
theorem dX3_dies_8 : decode cX3_dies 8 = .ok (.invokevirtual 107, 3) := by decide +kernel
theorem dX3_dies_11 : decode cX3_dies 11 = .ok (.invokevirtual 97, 3) := by decide +kernel
theorem dX3_dies_14 : decode cX3_dies 14 = .ok (.istore_n 2, 1) := by decide +kernel
theorem dX3_dies_15 : decode cX3_dies 15 = .ok (.aload_n 0, 1) := by decide +kernel
theorem dX3_dies_16 : decode cX3_dies 16 = .ok (.iload_n 2, 1) := by decide +kernel
theorem dX3_dies_17 : decode cX3_dies 17 = .ok (.invokevirtual 101, 3) := by decide +kernel
theorem dX3_dies_20 : decode cX3_dies 20 = .ok (.istore_n 3, 1) := by decide +kernel
theorem dX3_dies_21 : decode cX3_dies 21 = .ok (.aload_n 0, 1) := by decide +kernel
theorem dX3_dies_22 : decode cX3_dies 22 = .ok (.getfield 13, 3) := by decide +kernel
theorem dX3_dies_25 : decode cX3_dies 25 = .ok (.iconst 4, 1) := by decide +kernel
theorem dX3_dies_26 : decode cX3_dies 26 = .ok (.iload_n 1, 1) := by decide +kernel
theorem dX3_dies_27 : decode cX3_dies 27 = .ok (.imul, 1) := by decide +kernel
theorem dX3_dies_28 : decode cX3_dies 28 = .ok (.iconst 3, 1) := by decide +kernel
theorem dX3_dies_29 : decode cX3_dies 29 = .ok (.iadd, 1) := by decide +kernel
theorem dX3_dies_30 : decode cX3_dies 30 = .ok (.iaload, 1) := by decide +kernel
theorem dX3_dies_31 : decode cX3_dies 31 = .ok (.istore 4, 2) := by decide +kernel
theorem dX3_dies_33 : decode cX3_dies 33 = .ok (.aload_n 0, 1) := by decide +kernel
theorem dX3_dies_34 : decode cX3_dies 34 = .ok (.getfield 13, 3) := by decide +kernel
theorem dX3_dies_37 : decode cX3_dies 37 = .ok (.iconst 4, 1) := by decide +kernel
theorem dX3_dies_38 : decode cX3_dies 38 = .ok (.iload_n 1, 1) := by decide +kernel
theorem dX3_dies_39 : decode cX3_dies 39 = .ok (.imul, 1) := by decide +kernel
theorem dX3_dies_40 : decode cX3_dies 40 = .ok (.iconst 2, 1) := by decide +kernel
theorem dX3_dies_41 : decode cX3_dies 41 = .ok (.iadd, 1) := by decide +kernel
theorem dX3_dies_42 : decode cX3_dies 42 = .ok (.iconst 0, 1) := by decide +kernel
theorem dX3_dies_43 : decode cX3_dies 43 = .ok (.iastore, 1) := by decide +kernel
theorem dX3_dies_44 : decode cX3_dies 44 = .ok (.iconst 0, 1) := by decide +kernel
theorem dX3_dies_45 : decode cX3_dies 45 = .ok (.istore 5, 2) := by decide +kernel
theorem dX3_dies_47 : decode cX3_dies 47 = .ok (.iload 5, 2) := by decide +kernel
theorem dX3_dies_49 : decode cX3_dies 49 = .ok (.aload_n 0, 1) := by decide +kernel
theorem dX3_dies_50 : decode cX3_dies 50 = .ok (.getfield 79, 3) := by decide +kernel
theorem dX3_dies_53 : decode cX3_dies 53 = .ok (.if_icmp .ge 75, 3) := by decide +kernel
theorem dX3_dies_56 : decode cX3_dies 56 = .ok (.iload_n 2, 1) := by decide +kernel
theorem dX3_dies_57 : decode cX3_dies 57 = .ok (.iload 5, 2) := by decide +kernel
theorem dX3_dies_59 : decode cX3_dies 59 = .ok (.ishr, 1) := by decide +kernel
theorem dX3_dies_60 : decode cX3_dies 60 = .ok (.iconst 1, 1) := by decide +kernel
theorem dX3_dies_61 : decode cX3_dies 61 = .ok (.iand, 1) := by decide +kernel
theorem dX3_dies_62 : decode cX3_dies 62 = .ok (.iconst 1, 1) := by decide +kernel
theorem dX3_dies_63 : decode cX3_dies 63 = .ok (.if_icmp .ne 15, 3) := by decide +kernel
theorem dX3_dies_66 : decode cX3_dies 66 = .ok (.aload_n 0, 1) := by decide +kernel
theorem dX3_dies_67 : decode cX3_dies 67 = .ok (.iload 5, 2) := by decide +kernel
theorem dX3_dies_69 : decode cX3_dies 69 = .ok (.iconst (-1), 1) := by decide +kernel
theorem dX3_dies_70 : decode cX3_dies 70 = .ok (.iconst (-1), 1) := by decide +kernel
theorem dX3_dies_71 : decode cX3_dies 71 = .ok (.iconst (-1), 1) := by decide +kernel
theorem dX3_dies_72 : decode cX3_dies 72 = .ok (.invokevirtual 125, 3) := by decide +kernel
theorem dX3_dies_75 : decode cX3_dies 75 = .ok (.goto 47, 3) := by decide +kernel
theorem dX3_dies_78 : decode cX3_dies 78 = .ok (.aload_n 0, 1) := by decide +kernel
theorem dX3_dies_79 : decode cX3_dies 79 = .ok (.getfield 16, 3) := by decide +kernel
theorem dX3_dies_82 : decode cX3_dies 82 = .ok (.iconst 5, 1) := by decide +kernel
theorem dX3_dies_83 : decode cX3_dies 83 = .ok (.iload 5, 2) := by decide +kernel
theorem dX3_dies_85 : decode cX3_dies 85 = .ok (.imul, 1) := by decide +kernel
theorem dX3_dies_86 : decode cX3_dies 86 = .ok (.iconst 1, 1) := by decide +kernel
theorem dX3_dies_87 : decode cX3_dies 87 = .ok (.iadd, 1) := by decide +kernel
theorem dX3_dies_88 : decode cX3_dies 88 = .ok (.iaload, 1) := by decide +kernel
theorem dX3_dies_89 : decode cX3_dies 89 = .ok (.iload_n 1, 1) := by decide +kernel
theorem dX3_dies_90 : decode cX3_dies 90 = .ok (.if_icmp .ne 32, 3) := by decide +kernel
theorem dX3_dies_93 : decode cX3_dies 93 = .ok (.aload_n 0, 1) := by decide +kernel
theorem dX3_dies_94 : decode cX3_dies 94 = .ok (.iload 5, 2) := by decide +kernel
theorem dX3_dies_96 : decode cX3_dies 96 = .ok (.iload 4, 2) := by decide +kernel
theorem dX3_dies_98 : decode cX3_dies 98 = .ok (.iconst (-1), 1) := by decide +kernel
theorem dX3_dies_99 : decode cX3_dies 99 = .ok (.if_icmp .eq 17, 3) := by decide +kernel
theorem dX3_dies_102 : decode cX3_dies 102 = .ok (.aload_n 0, 1) := by decide +kernel
theorem dX3_dies_103 : decode cX3_dies 103 = .ok (.iload 4, 2) := by decide +kernel
theorem dX3_dies_105 : decode cX3_dies 105 = .ok (.invokevirtual 110, 3) := by decide +kernel
theorem dX3_dies_108 : decode cX3_dies 108 = .ok (.ifCond .eq 8, 3) := by decide +kernel
theorem dX3_dies_111 : decode cX3_dies 111 = .ok (.iload 4, 2) := by decide +kernel
theorem dX3_dies_113 : decode cX3_dies 113 = .ok (.goto 4, 3) := by decide +kernel
theorem dX3_dies_116 : decode cX3_dies 116 = .ok (.iconst (-1), 1) := by decide +kernel
theorem dX3_dies_117 : decode cX3_dies 117 = .ok (.iconst (-1), 1) := by decide +kernel
theorem dX3_dies_118 : decode cX3_dies 118 = .ok (.iconst (-1), 1) := by decide +kernel
theorem dX3_dies_119 : decode cX3_dies 119 = .ok (.invokevirtual 125, 3) := by decide +kernel
theorem dX3_dies_122 : decode cX3_dies 122 = .ok (.iinc 5 1, 3) := by decide +kernel
theorem dX3_dies_125 : decode cX3_dies 125 = .ok (.goto (-78), 3) := by decide +kernel
theorem dX3_dies_128 : decode cX3_dies 128 = .ok (.iload_n 3, 1) := by decide +kernel
theorem dX3_dies_129 : decode cX3_dies 129 = .ok (.ireturn, 1) := by decide +kernel
set_option maxRecDepth 20000 in
theorem ggX3_die_X3_isHolder : GoodIn wsX3_die wsX3_isHolder := goodIn_r _ [6, 7, 8, 9, 5, 10, 59, 60, 61, 62, 63, 64, 65, 66, 67, 68, 69, 70, 71, 72, 73, 74, 75, 76, 77, 78, 79, 80, 81, 82] (by decide +kernel) (by decide +kernel)
set_option maxRecDepth 20000 in
theorem gX3_die_X3_isHolder : GoodIn wsX3_die (wsV RX3 117 RX3 yX3_isHolder wsX3_isHolder) := goodIn_app (goodIn_of _ (by decide +kernel)) ggX3_die_X3_isHolder
set_option maxRecDepth 20000 in
theorem ggX3_die_X3_lives : GoodIn wsX3_die wsX3_lives := goodIn_r _ [14, 15, 59, 60, 61, 62, 63, 64, 65, 66, 67, 68, 69, 70, 71, 72, 73, 74, 75, 76, 77, 78, 79, 80, 81, 82] (by decide +kernel) (by decide +kernel)
set_option maxRecDepth 20000 in
theorem gX3_die_X3_lives : GoodIn wsX3_die (wsV RX3 110 RX3 yX3_lives wsX3_lives) := goodIn_app (goodIn_of _ (by decide +kernel)) ggX3_die_X3_lives
set_option maxRecDepth 20000 in
theorem ggX3_die_X3_dies : GoodIn wsX3_die wsX3_dies := goodIn_r _ [19, 20, 15, 21, 22, 23, 24, 25, 5, 26, 27, 28, 29, 30, 31, 32, 33, 34, 35, 36, 37, 38, 39, 40, 41, 42, 43, 44, 45, 46, 47, 48, 49, 50, 51, 52, 53, 54, 55, 56, 57, 58, 11, 12, 13, 14, 59, 60, 61, 62, 63, 64, 65, 66, 67, 68, 69, 70, 71, 72, 73, 74, 75, 76, 77, 78, 79, 80, 81, 82] (by decide +kernel) (by decide +kernel)
set_option maxRecDepth 20000 in
theorem gX3_die_X3_dies : GoodIn wsX3_die (wsV RX3 139 RX3 yX3_dies wsX3_dies) := goodIn_app (goodIn_of _ (by decide +kernel)) ggX3_die_X3_dies
theorem dX3_die_0 : decode cX3_die 0 = .ok (.aload_n 0, 1) := by decide +kernel
theorem dX3_die_1 : decode cX3_die 1 = .ok (.iload_n 1, 1) := by decide +kernel
theorem dX3_die_2 : decode cX3_die 2 = .ok (.invokevirtual 117, 3) := by decide +kernel
theorem dX3_die_5 : decode cX3_die 5 = .ok (.ifCond .ne 6, 3) := by decide +kernel
theorem dX3_die_8 : decode cX3_die 8 = .ok (.bipush (-101), 2) := by decide +kernel
theorem dX3_die_10 : decode cX3_die 10 = .ok (.ireturn, 1) := by decide +kernel
theorem dX3_die_11 : decode cX3_die 11 = .ok (.aload_n 0, 1) := by decide +kernel
theorem dX3_die_12 : decode cX3_die 12 = .ok (.iload_n 1, 1) := by decide +kernel
theorem dX3_die_13 : decode cX3_die 13 = .ok (.invokevirtual 110, 3) := by decide +kernel
theorem dX3_die_16 : decode cX3_die 16 = .ok (.ifCond .ne 6, 3) := by decide +kernel
theorem dX3_die_19 : decode cX3_die 19 = .ok (.bipush (-103), 2) := by decide +kernel
theorem dX3_die_21 : decode cX3_die 21 = .ok (.ireturn, 1) := by decide +kernel
theorem dX3_die_22 : decode cX3_die 22 = .ok (.aload_n 0, 1) := by decide +kernel
theorem dX3_die_23 : decode cX3_die 23 = .ok (.iload_n 1, 1) := by decide +kernel
theorem dX3_die_24 : decode cX3_die 24 = .ok (.invokevirtual 139, 3) := by decide +kernel
theorem dX3_die_27 : decode cX3_die 27 = .ok (.istore_n 2, 1) := by decide +kernel
theorem dX3_die_28 : decode cX3_die 28 = .ok (.aload_n 0, 1) := by decide +kernel
theorem dX3_die_29 : decode cX3_die 29 = .ok (.dup, 1) := by decide +kernel
theorem dX3_die_30 : decode cX3_die 30 = .ok (.getfield 142, 3) := by decide +kernel
theorem dX3_die_33 : decode cX3_die 33 = .ok (.iload_n 2, 1) := by decide +kernel
theorem dX3_die_34 : decode cX3_die 34 = .ok (.iadd, 1) := by decide +kernel
theorem dX3_die_35 : decode cX3_die 35 = .ok (.putfield 142, 3) := by decide +kernel
theorem dX3_die_38 : decode cX3_die 38 = .ok (.iload_n 2, 1) := by decide +kernel
theorem dX3_die_39 : decode cX3_die 39 = .ok (.ireturn, 1) := by decide +kernel
theorem dX3_year_0 : decode cX3_year 0 = .ok (.aload_n 0, 1) := by decide +kernel
theorem dX3_year_1 : decode cX3_year 1 = .ok (.dup, 1) := by decide +kernel
theorem dX3_year_2 : decode cX3_year 2 = .ok (.getfield 104, 3) := by decide +kernel
theorem dX3_year_5 : decode cX3_year 5 = .ok (.iconst 1, 1) := by decide +kernel
theorem dX3_year_6 : decode cX3_year 6 = .ok (.iadd, 1) := by decide +kernel
theorem dX3_year_7 : decode cX3_year 7 = .ok (.putfield 104, 3) := by decide +kernel
theorem dX3_year_10 : decode cX3_year 10 = .ok (.aload_n 0, 1) := by decide +kernel
theorem dX3_year_11 : decode cX3_year 11 = .ok (.getfield 104, 3) := by decide +kernel
theorem dX3_year_14 : decode cX3_year 14 = .ok (.ireturn, 1) := by decide +kernel
theorem dX3_ones_0 : decode cX3_ones 0 = .ok (.iconst 0, 1) := by decide +kernel
theorem dX3_ones_1 : decode cX3_ones 1 = .ok (.istore_n 1, 1) := by decide +kernel
theorem dX3_ones_2 : decode cX3_ones 2 = .ok (.iconst 0, 1) := by decide +kernel
theorem dX3_ones_3 : decode cX3_ones 3 = .ok (.istore_n 2, 1) := by decide +kernel
theorem dX3_ones_4 : decode cX3_ones 4 = .ok (.iload_n 2, 1) := by decide +kernel
theorem dX3_ones_5 : decode cX3_ones 5 = .ok (.bipush 6, 2) := by decide +kernel
theorem dX3_ones_7 : decode cX3_ones 7 = .ok (.if_icmp .ge 17, 3) := by decide +kernel
