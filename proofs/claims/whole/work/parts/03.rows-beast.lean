set_option maxRecDepth 20000 in
theorem ggX2_init_X1_init : GoodIn wsX2_init wsX1_init := goodIn_r _ [20, 21, 2, 3, 22, 23, 24, 25, 26, 14, 27, 28, 29, 30, 31, 32, 33, 34, 35, 36, 37, 38, 39, 44, 45, 46, 47, 48, 49, 50, 51, 52, 53, 54, 55, 56, 57, 58, 59, 60] (by decide +kernel) (by decide +kernel)
set_option maxRecDepth 20000 in
theorem gX2_init_X1_init_n9 : GoodIn wsX2_init (wsX1_init) := ggX2_init_X1_init
set_option maxRecDepth 20000 in
theorem ggX2_init_X0_init : GoodIn wsX2_init wsX0_init := goodIn_r _ [41, 42, 2, 3, 43, 69] (by decide +kernel) (by decide +kernel)
set_option maxRecDepth 20000 in
theorem gX2_init_X0_init_n24 : GoodIn wsX2_init (wsX0_init) := ggX2_init_X0_init
theorem dX2_init_0 : decode cX2_init 0 = .ok (.aload_n 0, 1) := by decide +kernel
theorem dX2_init_1 : decode cX2_init 1 = .ok (.invokespecial 1, 3) := by decide +kernel
theorem dX2_init_4 : decode cX2_init 4 = .ok (.aload_n 0, 1) := by decide +kernel
theorem dX2_init_5 : decode cX2_init 5 = .ok (.new 7, 3) := by decide +kernel
theorem dX2_init_8 : decode cX2_init 8 = .ok (.dup, 1) := by decide +kernel
theorem dX2_init_9 : decode cX2_init 9 = .ok (.invokespecial 9, 3) := by decide +kernel
theorem dX2_init_12 : decode cX2_init 12 = .ok (.putfield 10, 3) := by decide +kernel
theorem dX2_init_15 : decode cX2_init 15 = .ok (.aload_n 0, 1) := by decide +kernel
theorem dX2_init_16 : decode cX2_init 16 = .ok (.new 7, 3) := by decide +kernel
theorem dX2_init_19 : decode cX2_init 19 = .ok (.dup, 1) := by decide +kernel
theorem dX2_init_20 : decode cX2_init 20 = .ok (.invokespecial 9, 3) := by decide +kernel
theorem dX2_init_23 : decode cX2_init 23 = .ok (.putfield 16, 3) := by decide +kernel
theorem dX2_init_26 : decode cX2_init 26 = .ok (.aload_n 0, 1) := by decide +kernel
theorem dX2_init_27 : decode cX2_init 27 = .ok (.new 7, 3) := by decide +kernel
theorem dX2_init_30 : decode cX2_init 30 = .ok (.dup, 1) := by decide +kernel
theorem dX2_init_31 : decode cX2_init 31 = .ok (.invokespecial 9, 3) := by decide +kernel
theorem dX2_init_34 : decode cX2_init 34 = .ok (.putfield 19, 3) := by decide +kernel
theorem dX2_init_37 : decode cX2_init 37 = .ok (.aload_n 0, 1) := by decide +kernel
theorem dX2_init_38 : decode cX2_init 38 = .ok (.new 22, 3) := by decide +kernel
theorem dX2_init_41 : decode cX2_init 41 = .ok (.dup, 1) := by decide +kernel
theorem dX2_init_42 : decode cX2_init 42 = .ok (.invokespecial 24, 3) := by decide +kernel
theorem dX2_init_45 : decode cX2_init 45 = .ok (.putfield 25, 3) := by decide +kernel
theorem dX2_init_48 : decode cX2_init 48 = .ok (.aload_n 0, 1) := by decide +kernel
theorem dX2_init_49 : decode cX2_init 49 = .ok (.bipush 8, 2) := by decide +kernel
theorem dX2_init_51 : decode cX2_init 51 = .ok (.newarray .int, 2) := by decide +kernel
theorem dX2_init_53 : decode cX2_init 53 = .ok (.putfield 29, 3) := by decide +kernel
theorem dX2_init_56 : decode cX2_init 56 = .ok (.aload_n 0, 1) := by decide +kernel
theorem dX2_init_57 : decode cX2_init 57 = .ok (.iconst 0, 1) := by decide +kernel
theorem dX2_init_58 : decode cX2_init 58 = .ok (.putfield 33, 3) := by decide +kernel
theorem dX2_init_61 : decode cX2_init 61 = .ok (.aload_n 0, 1) := by decide +kernel
theorem dX2_init_62 : decode cX2_init 62 = .ok (.iconst 0, 1) := by decide +kernel
theorem dX2_init_63 : decode cX2_init 63 = .ok (.putfield 37, 3) := by decide +kernel
theorem dX2_init_66 : decode cX2_init 66 = .ok (.aload_n 0, 1) := by decide +kernel
theorem dX2_init_67 : decode cX2_init 67 = .ok (.iconst 0, 1) := by decide +kernel
theorem dX2_init_68 : decode cX2_init 68 = .ok (.putfield 40, 3) := by decide +kernel
theorem dX2_init_71 : decode cX2_init 71 = .ok (.return_, 1) := by decide +kernel
set_option maxRecDepth 20000 in
theorem ggX2_letter_X2_within : GoodIn wsX2_letter wsX2_within := goodIn_r _ [6] (by decide +kernel) (by decide +kernel)
set_option maxRecDepth 20000 in
theorem gX2_letter_X2_within : GoodIn wsX2_letter (va_wsS RX2 44 yX2_within wsX2_within) := goodIn_app (goodIn_of _ (by decide +kernel)) ggX2_letter_X2_within
theorem dX2_letter_0 : decode cX2_letter 0 = .ok (.iload_n 1, 1) := by decide +kernel
theorem dX2_letter_1 : decode cX2_letter 1 = .ok (.iconst 1, 1) := by decide +kernel
theorem dX2_letter_2 : decode cX2_letter 2 = .ok (.bipush 126, 2) := by decide +kernel
theorem dX2_letter_4 : decode cX2_letter 4 = .ok (.invokestatic 44, 3) := by decide +kernel
theorem dX2_letter_7 : decode cX2_letter 7 = .ok (.ifCond .ne 6, 3) := by decide +kernel
theorem dX2_letter_10 : decode cX2_letter 10 = .ok (.bipush (-102), 2) := by decide +kernel
theorem dX2_letter_12 : decode cX2_letter 12 = .ok (.ireturn, 1) := by decide +kernel
theorem dX2_letter_13 : decode cX2_letter 13 = .ok (.aload_n 0, 1) := by decide +kernel
theorem dX2_letter_14 : decode cX2_letter 14 = .ok (.getfield 33, 3) := by decide +kernel
theorem dX2_letter_17 : decode cX2_letter 17 = .ok (.aload_n 0, 1) := by decide +kernel
theorem dX2_letter_18 : decode cX2_letter 18 = .ok (.getfield 29, 3) := by decide +kernel
theorem dX2_letter_21 : decode cX2_letter 21 = .ok (.arraylength, 1) := by decide +kernel
theorem dX2_letter_22 : decode cX2_letter 22 = .ok (.if_icmp .lt 6, 3) := by decide +kernel
theorem dX2_letter_25 : decode cX2_letter 25 = .ok (.bipush (-104), 2) := by decide +kernel
theorem dX2_letter_27 : decode cX2_letter 27 = .ok (.ireturn, 1) := by decide +kernel
theorem dX2_letter_28 : decode cX2_letter 28 = .ok (.aload_n 0, 1) := by decide +kernel
theorem dX2_letter_29 : decode cX2_letter 29 = .ok (.getfield 29, 3) := by decide +kernel
theorem dX2_letter_32 : decode cX2_letter 32 = .ok (.aload_n 0, 1) := by decide +kernel
theorem dX2_letter_33 : decode cX2_letter 33 = .ok (.getfield 33, 3) := by decide +kernel
theorem dX2_letter_36 : decode cX2_letter 36 = .ok (.iload_n 1, 1) := by decide +kernel
theorem dX2_letter_37 : decode cX2_letter 37 = .ok (.iastore, 1) := by decide +kernel
theorem dX2_letter_38 : decode cX2_letter 38 = .ok (.aload_n 0, 1) := by decide +kernel
theorem dX2_letter_39 : decode cX2_letter 39 = .ok (.dup, 1) := by decide +kernel
theorem dX2_letter_40 : decode cX2_letter 40 = .ok (.getfield 33, 3) := by decide +kernel
theorem dX2_letter_43 : decode cX2_letter 43 = .ok (.iconst 1, 1) := by decide +kernel
theorem dX2_letter_44 : decode cX2_letter 44 = .ok (.iadd, 1) := by decide +kernel
theorem dX2_letter_45 : decode cX2_letter 45 = .ok (.putfield 33, 3) := by decide +kernel
theorem dX2_letter_48 : decode cX2_letter 48 = .ok (.aload_n 0, 1) := by decide +kernel
theorem dX2_letter_49 : decode cX2_letter 49 = .ok (.getfield 33, 3) := by decide +kernel
theorem dX2_letter_52 : decode cX2_letter 52 = .ok (.ireturn, 1) := by decide +kernel
theorem dX2_blank_0 : decode cX2_blank 0 = .ok (.aload_n 0, 1) := by decide +kernel
theorem dX2_blank_1 : decode cX2_blank 1 = .ok (.getfield 33, 3) := by decide +kernel
theorem dX2_blank_4 : decode cX2_blank 4 = .ok (.istore_n 1, 1) := by decide +kernel
theorem dX2_blank_5 : decode cX2_blank 5 = .ok (.aload_n 0, 1) := by decide +kernel
theorem dX2_blank_6 : decode cX2_blank 6 = .ok (.iconst 0, 1) := by decide +kernel
theorem dX2_blank_7 : decode cX2_blank 7 = .ok (.putfield 33, 3) := by decide +kernel
theorem dX2_blank_10 : decode cX2_blank 10 = .ok (.iload_n 1, 1) := by decide +kernel
theorem dX2_blank_11 : decode cX2_blank 11 = .ok (.ireturn, 1) := by decide +kernel
set_option maxRecDepth 20000 in
theorem ggX2_fault_X2_fitsLaw : GoodIn wsX2_fault wsX2_fitsLaw := goodIn_r _ [6, 7, 8, 9, 10, 11, 5, 12, 13, 14, 15, 16, 17, 18, 19, 20] (by decide +kernel) (by decide +kernel)
set_option maxRecDepth 20000 in
theorem gX2_fault_X2_fitsLaw : GoodIn wsX2_fault (wsV RX2 48 RX2 yX2_fitsLaw wsX2_fitsLaw) := goodIn_app (goodIn_of _ (by decide +kernel)) ggX2_fault_X2_fitsLaw
theorem dX2_fault_0 : decode cX2_fault 0 = .ok (.iconst 0, 1) := by decide +kernel
theorem dX2_fault_1 : decode cX2_fault 1 = .ok (.istore_n 1, 1) := by decide +kernel
theorem dX2_fault_2 : decode cX2_fault 2 = .ok (.iload_n 1, 1) := by decide +kernel
theorem dX2_fault_3 : decode cX2_fault 3 = .ok (.aload_n 0, 1) := by decide +kernel
theorem dX2_fault_4 : decode cX2_fault 4 = .ok (.getfield 33, 3) := by decide +kernel
theorem dX2_fault_7 : decode cX2_fault 7 = .ok (.if_icmp .ge 19, 3) := by decide +kernel
theorem dX2_fault_10 : decode cX2_fault 10 = .ok (.aload_n 0, 1) := by decide +kernel
theorem dX2_fault_11 : decode cX2_fault 11 = .ok (.iload_n 1, 1) := by decide +kernel
theorem dX2_fault_12 : decode cX2_fault 12 = .ok (.invokevirtual 48, 3) := by decide +kernel
theorem dX2_fault_15 : decode cX2_fault 15 = .ok (.ifCond .ne 5, 3) := by decide +kernel
theorem dX2_fault_18 : decode cX2_fault 18 = .ok (.iload_n 1, 1) := by decide +kernel
theorem dX2_fault_19 : decode cX2_fault 19 = .ok (.ireturn, 1) := by decide +kernel
theorem dX2_fault_20 : decode cX2_fault 20 = .ok (.iinc 1 1, 3) := by decide +kernel
theorem dX2_fault_23 : decode cX2_fault 23 = .ok (.goto (-21), 3) := by decide +kernel
theorem dX2_fault_26 : decode cX2_fault 26 = .ok (.aload_n 0, 1) := by decide +kernel
theorem dX2_fault_27 : decode cX2_fault 27 = .ok (.getfield 33, 3) := by decide +kernel
theorem dX2_fault_30 : decode cX2_fault 30 = .ok (.ireturn, 1) := by decide +kernel
set_option maxRecDepth 20000 in
theorem ggX2_law_X2_fault : GoodIn wsX2_law wsX2_fault := goodIn_r _ [14, 1, 15, 16, 17, 13, 18, 2, 19, 4, 20, 21, 22, 23, 24, 25, 26, 27, 28, 29, 30] (by decide +kernel) (by decide +kernel)
set_option maxRecDepth 20000 in
theorem gX2_law_X2_fault : GoodIn wsX2_law (wsV RX2 56 RX2 yX2_fault wsX2_fault) := goodIn_app (goodIn_of _ (by decide +kernel)) ggX2_law_X2_fault
theorem dX2_law_0 : decode cX2_law 0 = .ok (.aload_n 0, 1) := by decide +kernel
theorem dX2_law_1 : decode cX2_law 1 = .ok (.getfield 33, 3) := by decide +kernel
theorem dX2_law_4 : decode cX2_law 4 = .ok (.getstatic 52, 3) := by decide +kernel
theorem dX2_law_7 : decode cX2_law 7 = .ok (.arraylength, 1) := by decide +kernel
theorem dX2_law_8 : decode cX2_law 8 = .ok (.if_icmp .ne 14, 3) := by decide +kernel
theorem dX2_law_11 : decode cX2_law 11 = .ok (.aload_n 0, 1) := by decide +kernel
theorem dX2_law_12 : decode cX2_law 12 = .ok (.invokevirtual 56, 3) := by decide +kernel
theorem dX2_law_15 : decode cX2_law 15 = .ok (.aload_n 0, 1) := by decide +kernel
theorem dX2_law_16 : decode cX2_law 16 = .ok (.getfield 33, 3) := by decide +kernel
theorem dX2_law_19 : decode cX2_law 19 = .ok (.if_icmp .eq 6, 3) := by decide +kernel
theorem dX2_law_22 : decode cX2_law 22 = .ok (.bipush (-103), 2) := by decide +kernel
theorem dX2_law_24 : decode cX2_law 24 = .ok (.ireturn, 1) := by decide +kernel
theorem dX2_law_25 : decode cX2_law 25 = .ok (.aload_n 0, 1) := by decide +kernel
theorem dX2_law_26 : decode cX2_law 26 = .ok (.getfield 10, 3) := by decide +kernel
theorem dX2_law_29 : decode cX2_law 29 = .ok (.aload_n 0, 1) := by decide +kernel
theorem dX2_law_30 : decode cX2_law 30 = .ok (.getfield 29, 3) := by decide +kernel
theorem dX2_law_33 : decode cX2_law 33 = .ok (.iconst 0, 1) := by decide +kernel
theorem dX2_law_34 : decode cX2_law 34 = .ok (.iaload, 1) := by decide +kernel
theorem dX2_law_35 : decode cX2_law 35 = .ok (.bipush 48, 2) := by decide +kernel
theorem dX2_law_37 : decode cX2_law 37 = .ok (.isub, 1) := by decide +kernel
theorem dX2_law_38 : decode cX2_law 38 = .ok (.putfield 60, 3) := by decide +kernel
theorem dX2_law_41 : decode cX2_law 41 = .ok (.aload_n 0, 1) := by decide +kernel
theorem dX2_law_42 : decode cX2_law 42 = .ok (.getfield 10, 3) := by decide +kernel
theorem dX2_law_45 : decode cX2_law 45 = .ok (.aload_n 0, 1) := by decide +kernel
theorem dX2_law_46 : decode cX2_law 46 = .ok (.getfield 29, 3) := by decide +kernel
theorem dX2_law_49 : decode cX2_law 49 = .ok (.iconst 1, 1) := by decide +kernel
theorem dX2_law_50 : decode cX2_law 50 = .ok (.iaload, 1) := by decide +kernel
theorem dX2_law_51 : decode cX2_law 51 = .ok (.bipush 48, 2) := by decide +kernel
theorem dX2_law_53 : decode cX2_law 53 = .ok (.isub, 1) := by decide +kernel
theorem dX2_law_54 : decode cX2_law 54 = .ok (.putfield 63, 3) := by decide +kernel
theorem dX2_law_57 : decode cX2_law 57 = .ok (.aload_n 0, 1) := by decide +kernel
theorem dX2_law_58 : decode cX2_law 58 = .ok (.getfield 10, 3) := by decide +kernel
theorem dX2_law_61 : decode cX2_law 61 = .ok (.aload_n 0, 1) := by decide +kernel
theorem dX2_law_62 : decode cX2_law 62 = .ok (.getfield 29, 3) := by decide +kernel
theorem dX2_law_65 : decode cX2_law 65 = .ok (.iconst 2, 1) := by decide +kernel
theorem dX2_law_66 : decode cX2_law 66 = .ok (.iaload, 1) := by decide +kernel
theorem dX2_law_67 : decode cX2_law 67 = .ok (.bipush 48, 2) := by decide +kernel
theorem dX2_law_69 : decode cX2_law 69 = .ok (.isub, 1) := by decide +kernel
theorem dX2_law_70 : decode cX2_law 70 = .ok (.putfield 66, 3) := by decide +kernel
theorem dX2_law_73 : decode cX2_law 73 = .ok (.aload_n 0, 1) := by decide +kernel
theorem dX2_law_74 : decode cX2_law 74 = .ok (.getfield 10, 3) := by decide +kernel
theorem dX2_law_77 : decode cX2_law 77 = .ok (.aload_n 0, 1) := by decide +kernel
theorem dX2_law_78 : decode cX2_law 78 = .ok (.getfield 29, 3) := by decide +kernel
theorem dX2_law_81 : decode cX2_law 81 = .ok (.iconst 4, 1) := by decide +kernel
theorem dX2_law_82 : decode cX2_law 82 = .ok (.iaload, 1) := by decide +kernel
theorem dX2_law_83 : decode cX2_law 83 = .ok (.bipush 48, 2) := by decide +kernel
theorem dX2_law_85 : decode cX2_law 85 = .ok (.isub, 1) := by decide +kernel
theorem dX2_law_86 : decode cX2_law 86 = .ok (.putfield 69, 3) := by decide +kernel
theorem dX2_law_89 : decode cX2_law 89 = .ok (.aload_n 0, 1) := by decide +kernel
theorem dX2_law_90 : decode cX2_law 90 = .ok (.iconst 0, 1) := by decide +kernel
theorem dX2_law_91 : decode cX2_law 91 = .ok (.putfield 33, 3) := by decide +kernel
theorem dX2_law_94 : decode cX2_law 94 = .ok (.aload_n 0, 1) := by decide +kernel
theorem dX2_law_95 : decode cX2_law 95 = .ok (.dup, 1) := by decide +kernel
theorem dX2_law_96 : decode cX2_law 96 = .ok (.getfield 37, 3) := by decide +kernel
theorem dX2_law_99 : decode cX2_law 99 = .ok (.iconst 1, 1) := by decide +kernel
theorem dX2_law_100 : decode cX2_law 100 = .ok (.iadd, 1) := by decide +kernel
theorem dX2_law_101 : decode cX2_law 101 = .ok (.putfield 37, 3) := by decide +kernel
theorem dX2_law_104 : decode cX2_law 104 = .ok (.aload_n 0, 1) := by decide +kernel
theorem dX2_law_105 : decode cX2_law 105 = .ok (.getfield 37, 3) := by decide +kernel
theorem dX2_law_108 : decode cX2_law 108 = .ok (.ireturn, 1) := by decide +kernel
set_option maxRecDepth 20000 in
theorem ggX2_fitsLaw_X2_within : GoodIn wsX2_fitsLaw wsX2_within := goodIn_r _ [7] (by decide +kernel) (by decide +kernel)
set_option maxRecDepth 20000 in
theorem gX2_fitsLaw_X2_within : GoodIn wsX2_fitsLaw (va_wsS RX2 44 yX2_within wsX2_within) := goodIn_app (goodIn_of _ (by decide +kernel)) ggX2_fitsLaw_X2_within
theorem dX2_fitsLaw_0 : decode cX2_fitsLaw 0 = .ok (.iload_n 1, 1) := by decide +kernel
theorem dX2_fitsLaw_1 : decode cX2_fitsLaw 1 = .ok (.ifCond .lt 28, 3) := by decide +kernel
theorem dX2_fitsLaw_4 : decode cX2_fitsLaw 4 = .ok (.iload_n 1, 1) := by decide +kernel
theorem dX2_fitsLaw_5 : decode cX2_fitsLaw 5 = .ok (.getstatic 52, 3) := by decide +kernel
theorem dX2_fitsLaw_8 : decode cX2_fitsLaw 8 = .ok (.arraylength, 1) := by decide +kernel
theorem dX2_fitsLaw_9 : decode cX2_fitsLaw 9 = .ok (.if_icmp .ge 20, 3) := by decide +kernel
theorem dX2_fitsLaw_12 : decode cX2_fitsLaw 12 = .ok (.iload_n 1, 1) := by decide +kernel
theorem dX2_fitsLaw_13 : decode cX2_fitsLaw 13 = .ok (.getstatic 72, 3) := by decide +kernel
theorem dX2_fitsLaw_16 : decode cX2_fitsLaw 16 = .ok (.arraylength, 1) := by decide +kernel
theorem dX2_fitsLaw_17 : decode cX2_fitsLaw 17 = .ok (.if_icmp .ge 12, 3) := by decide +kernel
theorem dX2_fitsLaw_20 : decode cX2_fitsLaw 20 = .ok (.iload_n 1, 1) := by decide +kernel
theorem dX2_fitsLaw_21 : decode cX2_fitsLaw 21 = .ok (.aload_n 0, 1) := by decide +kernel
theorem dX2_fitsLaw_22 : decode cX2_fitsLaw 22 = .ok (.getfield 29, 3) := by decide +kernel
theorem dX2_fitsLaw_25 : decode cX2_fitsLaw 25 = .ok (.arraylength, 1) := by decide +kernel
theorem dX2_fitsLaw_26 : decode cX2_fitsLaw 26 = .ok (.if_icmp .lt 5, 3) := by decide +kernel
theorem dX2_fitsLaw_29 : decode cX2_fitsLaw 29 = .ok (.iconst 0, 1) := by decide +kernel
theorem dX2_fitsLaw_30 : decode cX2_fitsLaw 30 = .ok (.ireturn, 1) := by decide +kernel
theorem dX2_fitsLaw_31 : decode cX2_fitsLaw 31 = .ok (.aload_n 0, 1) := by decide +kernel
theorem dX2_fitsLaw_32 : decode cX2_fitsLaw 32 = .ok (.getfield 29, 3) := by decide +kernel
theorem dX2_fitsLaw_35 : decode cX2_fitsLaw 35 = .ok (.iload_n 1, 1) := by decide +kernel
theorem dX2_fitsLaw_36 : decode cX2_fitsLaw 36 = .ok (.iaload, 1) := by decide +kernel
theorem dX2_fitsLaw_37 : decode cX2_fitsLaw 37 = .ok (.getstatic 52, 3) := by decide +kernel
theorem dX2_fitsLaw_40 : decode cX2_fitsLaw 40 = .ok (.iload_n 1, 1) := by decide +kernel
theorem dX2_fitsLaw_41 : decode cX2_fitsLaw 41 = .ok (.caload, 1) := by decide +kernel
theorem dX2_fitsLaw_42 : decode cX2_fitsLaw 42 = .ok (.getstatic 72, 3) := by decide +kernel
theorem dX2_fitsLaw_45 : decode cX2_fitsLaw 45 = .ok (.iload_n 1, 1) := by decide +kernel
theorem dX2_fitsLaw_46 : decode cX2_fitsLaw 46 = .ok (.caload, 1) := by decide +kernel
theorem dX2_fitsLaw_47 : decode cX2_fitsLaw 47 = .ok (.invokestatic 44, 3) := by decide +kernel
theorem dX2_fitsLaw_50 : decode cX2_fitsLaw 50 = .ok (.ireturn, 1) := by decide +kernel
set_option maxRecDepth 20000 in
theorem ggX2_holder_X2_within : GoodIn wsX2_holder wsX2_within := goodIn_r _ [5] (by decide +kernel) (by decide +kernel)
set_option maxRecDepth 20000 in
theorem gX2_holder_X2_within : GoodIn wsX2_holder (va_wsS RX2 44 yX2_within wsX2_within) := goodIn_app (goodIn_of _ (by decide +kernel)) ggX2_holder_X2_within
set_option maxRecDepth 20000 in
theorem ggX2_holder_X1_addHolder : GoodIn wsX2_holder wsX1_addHolder := goodIn_r _ [10, 11, 12, 13, 14, 15, 24, 25, 26, 27, 28, 29, 30, 31, 32, 33, 34, 35, 36, 37, 38, 39, 40] (by decide +kernel) (by decide +kernel)
set_option maxRecDepth 20000 in
theorem gX2_holder_X1_addHolder : GoodIn wsX2_holder (wsV RX2 75 RX1 yX1_addHolder wsX1_addHolder) := goodIn_app (goodIn_of _ (by decide +kernel)) ggX2_holder_X1_addHolder
theorem dX2_holder_0 : decode cX2_holder 0 = .ok (.iload_n 1, 1) := by decide +kernel
theorem dX2_holder_1 : decode cX2_holder 1 = .ok (.iconst 0, 1) := by decide +kernel
theorem dX2_holder_2 : decode cX2_holder 2 = .ok (.iconst 4, 1) := by decide +kernel
theorem dX2_holder_3 : decode cX2_holder 3 = .ok (.invokestatic 44, 3) := by decide +kernel
theorem dX2_holder_6 : decode cX2_holder 6 = .ok (.ifCond .eq 13, 3) := by decide +kernel
theorem dX2_holder_9 : decode cX2_holder 9 = .ok (.iload_n 2, 1) := by decide +kernel
theorem dX2_holder_10 : decode cX2_holder 10 = .ok (.iconst 0, 1) := by decide +kernel
theorem dX2_holder_11 : decode cX2_holder 11 = .ok (.bipush 9, 2) := by decide +kernel
theorem dX2_holder_13 : decode cX2_holder 13 = .ok (.invokestatic 44, 3) := by decide +kernel
theorem dX2_holder_16 : decode cX2_holder 16 = .ok (.ifCond .ne 6, 3) := by decide +kernel
theorem dX2_holder_19 : decode cX2_holder 19 = .ok (.bipush (-102), 2) := by decide +kernel
theorem dX2_holder_21 : decode cX2_holder 21 = .ok (.ireturn, 1) := by decide +kernel
theorem dX2_holder_22 : decode cX2_holder 22 = .ok (.aload_n 0, 1) := by decide +kernel
theorem dX2_holder_23 : decode cX2_holder 23 = .ok (.getfield 10, 3) := by decide +kernel
theorem dX2_holder_26 : decode cX2_holder 26 = .ok (.iload_n 1, 1) := by decide +kernel
theorem dX2_holder_27 : decode cX2_holder 27 = .ok (.iload_n 2, 1) := by decide +kernel
theorem dX2_holder_28 : decode cX2_holder 28 = .ok (.invokevirtual 75, 3) := by decide +kernel
theorem dX2_holder_31 : decode cX2_holder 31 = .ok (.ireturn, 1) := by decide +kernel
set_option maxRecDepth 20000 in
theorem ggX2_about_X1_hasHolder : GoodIn wsX2_about wsX1_hasHolder := goodIn_r _ [10, 11, 85, 86, 87, 88, 89, 90, 91, 92, 93, 94, 95, 96, 97, 98, 99, 100, 101] (by decide +kernel) (by decide +kernel)
set_option maxRecDepth 20000 in
theorem gX2_about_X1_hasHolder : GoodIn wsX2_about (wsV RX2 79 RX1 yX1_hasHolder wsX1_hasHolder) := goodIn_app (goodIn_of _ (by decide +kernel)) ggX2_about_X1_hasHolder
set_option maxRecDepth 20000 in
theorem ggX2_about_X1_ownBits : GoodIn wsX2_about wsX1_ownBits := goodIn_r _ [15, 16, 17, 18, 19, 20, 9, 21, 85, 86, 87, 88, 89, 90, 91, 92, 93, 94, 95, 96, 97, 98, 99, 100, 101] (by decide +kernel) (by decide +kernel)
set_option maxRecDepth 20000 in
theorem gX2_about_X1_ownBits : GoodIn wsX2_about (wsV RX2 95 RX1 yX1_ownBits wsX1_ownBits) := goodIn_app (goodIn_of _ (by decide +kernel)) ggX2_about_X1_ownBits
set_option maxRecDepth 20000 in
theorem ggX2_about_X1_heldBits : GoodIn wsX2_about wsX1_heldBits := goodIn_r _ [25, 26, 27, 28, 9, 29, 30, 16, 31, 32, 33, 34, 13, 14, 15, 17, 18, 19, 20, 21, 85, 86, 87, 88, 89, 90, 91, 92, 93, 94, 95, 96, 97, 98, 99, 100, 101] (by decide +kernel) (by decide +kernel)
set_option maxRecDepth 20000 in
theorem gX2_about_X1_heldBits : GoodIn wsX2_about (wsV RX2 99 RX1 yX1_heldBits wsX1_heldBits) := goodIn_app (goodIn_of _ (by decide +kernel)) ggX2_about_X1_heldBits
set_option maxRecDepth 20000 in
theorem ggX2_about_X1_lordMay : GoodIn wsX2_about wsX1_lordMay := goodIn_r _ [38, 39, 40, 41, 42, 43, 85, 86, 87, 88, 89, 90, 91, 92, 93, 94, 95, 96, 97, 98, 99, 100, 101] (by decide +kernel) (by decide +kernel)
set_option maxRecDepth 20000 in
theorem gX2_about_X1_lordMay : GoodIn wsX2_about (wsV RX2 102 RX1 yX1_lordMay wsX1_lordMay) := goodIn_app (goodIn_of _ (by decide +kernel)) ggX2_about_X1_lordMay
set_option maxRecDepth 20000 in
theorem ggX2_about_X1_churchMay : GoodIn wsX2_about wsX1_churchMay := goodIn_r _ [47, 48, 40, 41, 42, 43, 85, 86, 87, 88, 89, 90, 91, 92, 93, 94, 95, 96, 97, 98, 99, 100, 101] (by decide +kernel) (by decide +kernel)
set_option maxRecDepth 20000 in
theorem gX2_about_X1_churchMay : GoodIn wsX2_about (wsV RX2 105 RX1 yX1_churchMay wsX1_churchMay) := goodIn_app (goodIn_of _ (by decide +kernel)) ggX2_about_X1_churchMay
set_option maxRecDepth 20000 in
theorem ggX2_about_X1_lossOf : GoodIn wsX2_about wsX1_lossOf := goodIn_r _ [52, 53, 54, 55, 9, 56, 57, 58, 7, 8, 10, 11, 59, 23, 24, 25, 26, 27, 28, 29, 30, 16, 31, 32, 33, 34, 13, 14, 15, 17, 18, 19, 20, 21, 60, 61, 62, 63, 64, 65, 36, 37, 38, 39, 40, 41, 42, 43, 66, 45, 46, 47, 48, 67, 68, 69, 70, 71, 72, 73, 74, 75, 76, 85, 86, 87, 88, 89, 90, 91, 92, 93, 94, 95, 96, 97, 98, 99, 100, 101] (by decide +kernel) (by decide +kernel)
set_option maxRecDepth 20000 in
theorem gX2_about_X1_lossOf : GoodIn wsX2_about (wsV RX2 108 RX1 yX1_lossOf wsX1_lossOf) := goodIn_app (goodIn_of _ (by decide +kernel)) ggX2_about_X1_lossOf
theorem dX2_about_0 : decode cX2_about 0 = .ok (.aload_n 0, 1) := by decide +kernel
theorem dX2_about_1 : decode cX2_about 1 = .ok (.getfield 10, 3) := by decide +kernel
theorem dX2_about_4 : decode cX2_about 4 = .ok (.iload_n 1, 1) := by decide +kernel
theorem dX2_about_5 : decode cX2_about 5 = .ok (.invokevirtual 79, 3) := by decide +kernel
theorem dX2_about_8 : decode cX2_about 8 = .ok (.ifCond .ne 6, 3) := by decide +kernel
theorem dX2_about_11 : decode cX2_about 11 = .ok (.bipush (-101), 2) := by decide +kernel
theorem dX2_about_13 : decode cX2_about 13 = .ok (.ireturn, 1) := by decide +kernel
theorem dX2_about_14 : decode cX2_about 14 = .ok (.iload_n 2, 1) := by decide +kernel
theorem dX2_about_15 : decode cX2_about 15 = .ok (.tableswitch 158 0 8 #[49, 59, 69, 87, 97, 106, 115, 132, 149], 49) := by decide +kernel
theorem dX2_about_64 : decode cX2_about 64 = .ok (.aload_n 0, 1) := by decide +kernel
theorem dX2_about_65 : decode cX2_about 65 = .ok (.getfield 10, 3) := by decide +kernel
theorem dX2_about_68 : decode cX2_about 68 = .ok (.getfield 82, 3) := by decide +kernel
theorem dX2_about_71 : decode cX2_about 71 = .ok (.iload_n 1, 1) := by decide +kernel
theorem dX2_about_72 : decode cX2_about 72 = .ok (.iaload, 1) := by decide +kernel
theorem dX2_about_73 : decode cX2_about 73 = .ok (.ireturn, 1) := by decide +kernel
theorem dX2_about_74 : decode cX2_about 74 = .ok (.aload_n 0, 1) := by decide +kernel
theorem dX2_about_75 : decode cX2_about 75 = .ok (.getfield 10, 3) := by decide +kernel
theorem dX2_about_78 : decode cX2_about 78 = .ok (.getfield 85, 3) := by decide +kernel
theorem dX2_about_81 : decode cX2_about 81 = .ok (.iload_n 1, 1) := by decide +kernel
theorem dX2_about_82 : decode cX2_about 82 = .ok (.iaload, 1) := by decide +kernel
theorem dX2_about_83 : decode cX2_about 83 = .ok (.ireturn, 1) := by decide +kernel
theorem dX2_about_84 : decode cX2_about 84 = .ok (.aload_n 0, 1) := by decide +kernel
theorem dX2_about_85 : decode cX2_about 85 = .ok (.getfield 10, 3) := by decide +kernel
theorem dX2_about_88 : decode cX2_about 88 = .ok (.getfield 88, 3) := by decide +kernel
theorem dX2_about_91 : decode cX2_about 91 = .ok (.iload_n 1, 1) := by decide +kernel
theorem dX2_about_92 : decode cX2_about 92 = .ok (.baload, 1) := by decide +kernel
theorem dX2_about_93 : decode cX2_about 93 = .ok (.ifCond .eq 7, 3) := by decide +kernel
theorem dX2_about_96 : decode cX2_about 96 = .ok (.iconst 1, 1) := by decide +kernel
theorem dX2_about_97 : decode cX2_about 97 = .ok (.goto 4, 3) := by decide +kernel
theorem dX2_about_100 : decode cX2_about 100 = .ok (.iconst 0, 1) := by decide +kernel
theorem dX2_about_101 : decode cX2_about 101 = .ok (.ireturn, 1) := by decide +kernel
theorem dX2_about_102 : decode cX2_about 102 = .ok (.aload_n 0, 1) := by decide +kernel
theorem dX2_about_103 : decode cX2_about 103 = .ok (.getfield 10, 3) := by decide +kernel
theorem dX2_about_106 : decode cX2_about 106 = .ok (.getfield 92, 3) := by decide +kernel
theorem dX2_about_109 : decode cX2_about 109 = .ok (.iload_n 1, 1) := by decide +kernel
theorem dX2_about_110 : decode cX2_about 110 = .ok (.iaload, 1) := by decide +kernel
theorem dX2_about_111 : decode cX2_about 111 = .ok (.ireturn, 1) := by decide +kernel
theorem dX2_about_112 : decode cX2_about 112 = .ok (.aload_n 0, 1) := by decide +kernel
theorem dX2_about_113 : decode cX2_about 113 = .ok (.getfield 10, 3) := by decide +kernel
theorem dX2_about_116 : decode cX2_about 116 = .ok (.iload_n 1, 1) := by decide +kernel
theorem dX2_about_117 : decode cX2_about 117 = .ok (.invokevirtual 95, 3) := by decide +kernel
theorem dX2_about_120 : decode cX2_about 120 = .ok (.ireturn, 1) := by decide +kernel
theorem dX2_about_121 : decode cX2_about 121 = .ok (.aload_n 0, 1) := by decide +kernel
theorem dX2_about_122 : decode cX2_about 122 = .ok (.getfield 10, 3) := by decide +kernel
theorem dX2_about_125 : decode cX2_about 125 = .ok (.iload_n 1, 1) := by decide +kernel
theorem dX2_about_126 : decode cX2_about 126 = .ok (.invokevirtual 99, 3) := by decide +kernel
theorem dX2_about_129 : decode cX2_about 129 = .ok (.ireturn, 1) := by decide +kernel
theorem dX2_about_130 : decode cX2_about 130 = .ok (.aload_n 0, 1) := by decide +kernel
theorem dX2_about_131 : decode cX2_about 131 = .ok (.getfield 10, 3) := by decide +kernel
theorem dX2_about_134 : decode cX2_about 134 = .ok (.aload_n 0, 1) := by decide +kernel
theorem dX2_about_135 : decode cX2_about 135 = .ok (.getfield 10, 3) := by decide +kernel
theorem dX2_about_138 : decode cX2_about 138 = .ok (.getfield 82, 3) := by decide +kernel
theorem dX2_about_141 : decode cX2_about 141 = .ok (.iload_n 1, 1) := by decide +kernel
theorem dX2_about_142 : decode cX2_about 142 = .ok (.iaload, 1) := by decide +kernel
theorem dX2_about_143 : decode cX2_about 143 = .ok (.invokevirtual 102, 3) := by decide +kernel
theorem dX2_about_146 : decode cX2_about 146 = .ok (.ireturn, 1) := by decide +kernel
theorem dX2_about_147 : decode cX2_about 147 = .ok (.aload_n 0, 1) := by decide +kernel
theorem dX2_about_148 : decode cX2_about 148 = .ok (.getfield 10, 3) := by decide +kernel
theorem dX2_about_151 : decode cX2_about 151 = .ok (.aload_n 0, 1) := by decide +kernel
theorem dX2_about_152 : decode cX2_about 152 = .ok (.getfield 10, 3) := by decide +kernel
theorem dX2_about_155 : decode cX2_about 155 = .ok (.getfield 82, 3) := by decide +kernel
theorem dX2_about_158 : decode cX2_about 158 = .ok (.iload_n 1, 1) := by decide +kernel
theorem dX2_about_159 : decode cX2_about 159 = .ok (.iaload, 1) := by decide +kernel
theorem dX2_about_160 : decode cX2_about 160 = .ok (.invokevirtual 105, 3) := by decide +kernel
theorem dX2_about_163 : decode cX2_about 163 = .ok (.ireturn, 1) := by decide +kernel
theorem dX2_about_164 : decode cX2_about 164 = .ok (.aload_n 0, 1) := by decide +kernel
theorem dX2_about_165 : decode cX2_about 165 = .ok (.getfield 10, 3) := by decide +kernel
theorem dX2_about_168 : decode cX2_about 168 = .ok (.iload_n 1, 1) := by decide +kernel
theorem dX2_about_169 : decode cX2_about 169 = .ok (.invokevirtual 108, 3) := by decide +kernel
theorem dX2_about_172 : decode cX2_about 172 = .ok (.ireturn, 1) := by decide +kernel
theorem dX2_about_173 : decode cX2_about 173 = .ok (.bipush (-102), 2) := by decide +kernel
theorem dX2_about_175 : decode cX2_about 175 = .ok (.ireturn, 1) := by decide +kernel
set_option maxRecDepth 20000 in
theorem ggX2_as_X1_hasHolder : GoodIn wsX2_as wsX1_hasHolder := goodIn_r _ [7, 8, 24, 25, 26, 27, 28, 29, 30, 31, 32, 33, 34, 35, 36, 37, 38, 39, 40] (by decide +kernel) (by decide +kernel)
set_option maxRecDepth 20000 in
theorem gX2_as_X1_hasHolder : GoodIn wsX2_as (wsV RX2 79 RX1 yX1_hasHolder wsX1_hasHolder) := goodIn_app (goodIn_of _ (by decide +kernel)) ggX2_as_X1_hasHolder
set_option maxRecDepth 20000 in
theorem ggX2_as_X2_within : GoodIn wsX2_as wsX2_within := goodIn_r _ [12] (by decide +kernel) (by decide +kernel)
set_option maxRecDepth 20000 in
theorem gX2_as_X2_within : GoodIn wsX2_as (va_wsS RX2 44 yX2_within wsX2_within) := goodIn_app (goodIn_of _ (by decide +kernel)) ggX2_as_X2_within
set_option maxRecDepth 20000 in
theorem ggX2_as_X2_isSuch : GoodIn wsX2_as wsX2_isSuch := goodIn_r _ [15] (by decide +kernel) (by decide +kernel)
set_option maxRecDepth 20000 in
theorem gX2_as_X2_isSuch : GoodIn wsX2_as (va_wsS RX2 111 yX2_isSuch wsX2_isSuch) := goodIn_app (goodIn_of _ (by decide +kernel)) ggX2_as_X2_isSuch
theorem dX2_as_0 : decode cX2_as 0 = .ok (.aload_n 0, 1) := by decide +kernel
theorem dX2_as_1 : decode cX2_as 1 = .ok (.getfield 10, 3) := by decide +kernel
theorem dX2_as_4 : decode cX2_as 4 = .ok (.iload_n 1, 1) := by decide +kernel
theorem dX2_as_5 : decode cX2_as 5 = .ok (.invokevirtual 79, 3) := by decide +kernel
theorem dX2_as_8 : decode cX2_as 8 = .ok (.ifCond .ne 6, 3) := by decide +kernel
theorem dX2_as_11 : decode cX2_as 11 = .ok (.bipush (-101), 2) := by decide +kernel
theorem dX2_as_13 : decode cX2_as 13 = .ok (.ireturn, 1) := by decide +kernel
theorem dX2_as_14 : decode cX2_as 14 = .ok (.iload_n 2, 1) := by decide +kernel
theorem dX2_as_15 : decode cX2_as 15 = .ok (.iconst 0, 1) := by decide +kernel
theorem dX2_as_16 : decode cX2_as 16 = .ok (.iconst 4, 1) := by decide +kernel
theorem dX2_as_17 : decode cX2_as 17 = .ok (.invokestatic 44, 3) := by decide +kernel
theorem dX2_as_20 : decode cX2_as 20 = .ok (.ifCond .ne 6, 3) := by decide +kernel
theorem dX2_as_23 : decode cX2_as 23 = .ok (.bipush (-102), 2) := by decide +kernel
theorem dX2_as_25 : decode cX2_as 25 = .ok (.ireturn, 1) := by decide +kernel
theorem dX2_as_26 : decode cX2_as 26 = .ok (.aload_n 0, 1) := by decide +kernel
theorem dX2_as_27 : decode cX2_as 27 = .ok (.getfield 10, 3) := by decide +kernel
theorem dX2_as_30 : decode cX2_as 30 = .ok (.getfield 82, 3) := by decide +kernel
theorem dX2_as_33 : decode cX2_as 33 = .ok (.iload_n 1, 1) := by decide +kernel
theorem dX2_as_34 : decode cX2_as 34 = .ok (.iaload, 1) := by decide +kernel
theorem dX2_as_35 : decode cX2_as 35 = .ok (.iload_n 2, 1) := by decide +kernel
theorem dX2_as_36 : decode cX2_as 36 = .ok (.invokestatic 111, 3) := by decide +kernel
theorem dX2_as_39 : decode cX2_as 39 = .ok (.ifCond .eq 7, 3) := by decide +kernel
theorem dX2_as_42 : decode cX2_as 42 = .ok (.iload_n 1, 1) := by decide +kernel
theorem dX2_as_43 : decode cX2_as 43 = .ok (.goto 4, 3) := by decide +kernel
theorem dX2_as_46 : decode cX2_as 46 = .ok (.iconst (-1), 1) := by decide +kernel
theorem dX2_as_47 : decode cX2_as 47 = .ok (.ireturn, 1) := by decide +kernel
set_option maxRecDepth 20000 in
theorem ggX2_heir_X1_hasHolder : GoodIn wsX2_heir wsX1_hasHolder := goodIn_r _ [7, 8, 17, 18, 19, 20, 21, 22, 23, 24, 25, 26, 27, 28, 29, 30, 31, 32, 33] (by decide +kernel) (by decide +kernel)
set_option maxRecDepth 20000 in
theorem gX2_heir_X1_hasHolder : GoodIn wsX2_heir (wsV RX2 79 RX1 yX1_hasHolder wsX1_hasHolder) := goodIn_app (goodIn_of _ (by decide +kernel)) ggX2_heir_X1_hasHolder
theorem dX2_heir_0 : decode cX2_heir 0 = .ok (.aload_n 0, 1) := by decide +kernel
theorem dX2_heir_1 : decode cX2_heir 1 = .ok (.getfield 10, 3) := by decide +kernel
theorem dX2_heir_4 : decode cX2_heir 4 = .ok (.iload_n 1, 1) := by decide +kernel
theorem dX2_heir_5 : decode cX2_heir 5 = .ok (.invokevirtual 79, 3) := by decide +kernel
theorem dX2_heir_8 : decode cX2_heir 8 = .ok (.ifCond .eq 24, 3) := by decide +kernel
theorem dX2_heir_11 : decode cX2_heir 11 = .ok (.iload_n 2, 1) := by decide +kernel
theorem dX2_heir_12 : decode cX2_heir 12 = .ok (.iload_n 1, 1) := by decide +kernel
theorem dX2_heir_13 : decode cX2_heir 13 = .ok (.if_icmp .eq 19, 3) := by decide +kernel
theorem dX2_heir_16 : decode cX2_heir 16 = .ok (.iload_n 2, 1) := by decide +kernel
theorem dX2_heir_17 : decode cX2_heir 17 = .ok (.iconst (-1), 1) := by decide +kernel
theorem dX2_heir_18 : decode cX2_heir 18 = .ok (.if_icmp .eq 17, 3) := by decide +kernel
theorem dX2_heir_21 : decode cX2_heir 21 = .ok (.aload_n 0, 1) := by decide +kernel
theorem dX2_heir_22 : decode cX2_heir 22 = .ok (.getfield 10, 3) := by decide +kernel
theorem dX2_heir_25 : decode cX2_heir 25 = .ok (.iload_n 2, 1) := by decide +kernel
theorem dX2_heir_26 : decode cX2_heir 26 = .ok (.invokevirtual 79, 3) := by decide +kernel
theorem dX2_heir_29 : decode cX2_heir 29 = .ok (.ifCond .ne 6, 3) := by decide +kernel
theorem dX2_heir_32 : decode cX2_heir 32 = .ok (.bipush (-101), 2) := by decide +kernel
theorem dX2_heir_34 : decode cX2_heir 34 = .ok (.ireturn, 1) := by decide +kernel
theorem dX2_heir_35 : decode cX2_heir 35 = .ok (.aload_n 0, 1) := by decide +kernel
theorem dX2_heir_36 : decode cX2_heir 36 = .ok (.getfield 10, 3) := by decide +kernel
theorem dX2_heir_39 : decode cX2_heir 39 = .ok (.getfield 92, 3) := by decide +kernel
theorem dX2_heir_42 : decode cX2_heir 42 = .ok (.iload_n 1, 1) := by decide +kernel
theorem dX2_heir_43 : decode cX2_heir 43 = .ok (.iaload, 1) := by decide +kernel
theorem dX2_heir_44 : decode cX2_heir 44 = .ok (.istore_n 3, 1) := by decide +kernel
theorem dX2_heir_45 : decode cX2_heir 45 = .ok (.aload_n 0, 1) := by decide +kernel
theorem dX2_heir_46 : decode cX2_heir 46 = .ok (.getfield 10, 3) := by decide +kernel
theorem dX2_heir_49 : decode cX2_heir 49 = .ok (.getfield 92, 3) := by decide +kernel
theorem dX2_heir_52 : decode cX2_heir 52 = .ok (.iload_n 1, 1) := by decide +kernel
theorem dX2_heir_53 : decode cX2_heir 53 = .ok (.iload_n 2, 1) := by decide +kernel
theorem dX2_heir_54 : decode cX2_heir 54 = .ok (.iastore, 1) := by decide +kernel
theorem dX2_heir_55 : decode cX2_heir 55 = .ok (.iload_n 3, 1) := by decide +kernel
theorem dX2_heir_56 : decode cX2_heir 56 = .ok (.ireturn, 1) := by decide +kernel
theorem dX2_isSuch_0 : decode cX2_isSuch 0 = .ok (.iload_n 1, 1) := by decide +kernel
theorem dX2_isSuch_1 : decode cX2_isSuch 1 = .ok (.ifCond .eq 18, 3) := by decide +kernel
theorem dX2_isSuch_4 : decode cX2_isSuch 4 = .ok (.iload_n 1, 1) := by decide +kernel
theorem dX2_isSuch_5 : decode cX2_isSuch 5 = .ok (.iload_n 0, 1) := by decide +kernel
theorem dX2_isSuch_6 : decode cX2_isSuch 6 = .ok (.if_icmp .eq 13, 3) := by decide +kernel
theorem dX2_isSuch_9 : decode cX2_isSuch 9 = .ok (.iload_n 1, 1) := by decide +kernel
theorem dX2_isSuch_10 : decode cX2_isSuch 10 = .ok (.iconst 3, 1) := by decide +kernel
theorem dX2_isSuch_11 : decode cX2_isSuch 11 = .ok (.if_icmp .ne 12, 3) := by decide +kernel
theorem dX2_isSuch_14 : decode cX2_isSuch 14 = .ok (.iload_n 0, 1) := by decide +kernel
theorem dX2_isSuch_15 : decode cX2_isSuch 15 = .ok (.iconst 4, 1) := by decide +kernel
theorem dX2_isSuch_16 : decode cX2_isSuch 16 = .ok (.if_icmp .ne 7, 3) := by decide +kernel
theorem dX2_isSuch_19 : decode cX2_isSuch 19 = .ok (.iconst 1, 1) := by decide +kernel
theorem dX2_isSuch_20 : decode cX2_isSuch 20 = .ok (.goto 4, 3) := by decide +kernel
theorem dX2_isSuch_23 : decode cX2_isSuch 23 = .ok (.iconst 0, 1) := by decide +kernel
theorem dX2_isSuch_24 : decode cX2_isSuch 24 = .ok (.ireturn, 1) := by decide +kernel
set_option maxRecDepth 20000 in
theorem ggX2_beast_X1_hasHolder : GoodIn wsX2_beast wsX1_hasHolder := goodIn_r _ [7, 8, 39, 40, 41, 42, 43, 44, 45, 46, 47, 48, 49, 50, 51, 52, 53, 54, 55] (by decide +kernel) (by decide +kernel)
set_option maxRecDepth 20000 in
theorem gX2_beast_X1_hasHolder : GoodIn wsX2_beast (wsV RX2 79 RX1 yX1_hasHolder wsX1_hasHolder) := goodIn_app (goodIn_of _ (by decide +kernel)) ggX2_beast_X1_hasHolder
set_option maxRecDepth 20000 in
theorem ggX2_beast_X2_within : GoodIn wsX2_beast wsX2_within := goodIn_r _ [12] (by decide +kernel) (by decide +kernel)
set_option maxRecDepth 20000 in
theorem gX2_beast_X2_within : GoodIn wsX2_beast (va_wsS RX2 44 yX2_within wsX2_within) := goodIn_app (goodIn_of _ (by decide +kernel)) ggX2_beast_X2_within
set_option maxRecDepth 20000 in
theorem ggX2_beast_X1_addBeast : GoodIn wsX2_beast wsX1_addBeast := goodIn_r _ [16, 17, 18, 19, 20, 21, 22, 6, 23, 24, 25, 26, 27, 28, 29, 30, 39, 40, 41, 42, 43, 44, 45, 46, 47, 48, 49, 50, 51, 52, 53, 54, 55] (by decide +kernel) (by decide +kernel)
set_option maxRecDepth 20000 in
theorem gX2_beast_X1_addBeast : GoodIn wsX2_beast (wsV RX2 115 RX1 yX1_addBeast wsX1_addBeast) := goodIn_app (goodIn_of _ (by decide +kernel)) ggX2_beast_X1_addBeast
theorem dX2_beast_0 : decode cX2_beast 0 = .ok (.aload_n 0, 1) := by decide +kernel
theorem dX2_beast_1 : decode cX2_beast 1 = .ok (.getfield 10, 3) := by decide +kernel
theorem dX2_beast_4 : decode cX2_beast 4 = .ok (.iload_n 1, 1) := by decide +kernel
theorem dX2_beast_5 : decode cX2_beast 5 = .ok (.invokevirtual 79, 3) := by decide +kernel
theorem dX2_beast_8 : decode cX2_beast 8 = .ok (.ifCond .ne 6, 3) := by decide +kernel
theorem dX2_beast_11 : decode cX2_beast 11 = .ok (.bipush (-101), 2) := by decide +kernel
theorem dX2_beast_13 : decode cX2_beast 13 = .ok (.ireturn, 1) := by decide +kernel
theorem dX2_beast_14 : decode cX2_beast 14 = .ok (.iload_n 2, 1) := by decide +kernel
theorem dX2_beast_15 : decode cX2_beast 15 = .ok (.iconst 1, 1) := by decide +kernel
theorem dX2_beast_16 : decode cX2_beast 16 = .ok (.bipush 99, 2) := by decide +kernel
theorem dX2_beast_18 : decode cX2_beast 18 = .ok (.invokestatic 44, 3) := by decide +kernel
theorem dX2_beast_21 : decode cX2_beast 21 = .ok (.ifCond .ne 6, 3) := by decide +kernel
theorem dX2_beast_24 : decode cX2_beast 24 = .ok (.bipush (-102), 2) := by decide +kernel
theorem dX2_beast_26 : decode cX2_beast 26 = .ok (.ireturn, 1) := by decide +kernel
theorem dX2_beast_27 : decode cX2_beast 27 = .ok (.aload_n 0, 1) := by decide +kernel
theorem dX2_beast_28 : decode cX2_beast 28 = .ok (.getfield 10, 3) := by decide +kernel
theorem dX2_beast_31 : decode cX2_beast 31 = .ok (.getfield 88, 3) := by decide +kernel
theorem dX2_beast_34 : decode cX2_beast 34 = .ok (.iload_n 1, 1) := by decide +kernel
theorem dX2_beast_35 : decode cX2_beast 35 = .ok (.baload, 1) := by decide +kernel
theorem dX2_beast_36 : decode cX2_beast 36 = .ok (.ifCond .ne 6, 3) := by decide +kernel
theorem dX2_beast_39 : decode cX2_beast 39 = .ok (.bipush (-103), 2) := by decide +kernel
theorem dX2_beast_41 : decode cX2_beast 41 = .ok (.ireturn, 1) := by decide +kernel
theorem dX2_beast_42 : decode cX2_beast 42 = .ok (.aload_n 0, 1) := by decide +kernel
theorem dX2_beast_43 : decode cX2_beast 43 = .ok (.getfield 10, 3) := by decide +kernel
theorem dX2_beast_46 : decode cX2_beast 46 = .ok (.iload_n 1, 1) := by decide +kernel
theorem dX2_beast_47 : decode cX2_beast 47 = .ok (.iload_n 2, 1) := by decide +kernel
theorem dX2_beast_48 : decode cX2_beast 48 = .ok (.invokevirtual 115, 3) := by decide +kernel
theorem dX2_beast_51 : decode cX2_beast 51 = .ok (.ireturn, 1) := by decide +kernel
set_option maxRecDepth 20000 in
theorem ggX2_beastOf_X1_hasBeast : GoodIn wsX2_beastOf wsX1_hasBeast := goodIn_r _ [11, 12, 21, 22, 23, 24, 25, 26, 27, 28, 29, 30, 31, 32, 33, 34, 35, 36, 37] (by decide +kernel) (by decide +kernel)
set_option maxRecDepth 20000 in
theorem gX2_beastOf_X1_hasBeast : GoodIn wsX2_beastOf (wsV RX2 118 RX1 yX1_hasBeast wsX1_hasBeast) := goodIn_app (goodIn_of _ (by decide +kernel)) ggX2_beastOf_X1_hasBeast
theorem dX2_beastOf_0 : decode cX2_beastOf 0 = .ok (.aload_n 0, 1) := by decide +kernel
theorem dX2_beastOf_1 : decode cX2_beastOf 1 = .ok (.getfield 10, 3) := by decide +kernel
theorem dX2_beastOf_4 : decode cX2_beastOf 4 = .ok (.iload_n 1, 1) := by decide +kernel
theorem dX2_beastOf_5 : decode cX2_beastOf 5 = .ok (.invokevirtual 118, 3) := by decide +kernel
theorem dX2_beastOf_8 : decode cX2_beastOf 8 = .ok (.ifCond .ne 6, 3) := by decide +kernel
theorem dX2_beastOf_11 : decode cX2_beastOf 11 = .ok (.bipush (-101), 2) := by decide +kernel
theorem dX2_beastOf_13 : decode cX2_beastOf 13 = .ok (.ireturn, 1) := by decide +kernel
theorem dX2_beastOf_14 : decode cX2_beastOf 14 = .ok (.iload_n 2, 1) := by decide +kernel
theorem dX2_beastOf_15 : decode cX2_beastOf 15 = .ok (.tableswitch 83 0 4 #[33, 43, 53, 63, 73], 33) := by decide +kernel
theorem dX2_beastOf_48 : decode cX2_beastOf 48 = .ok (.aload_n 0, 1) := by decide +kernel
theorem dX2_beastOf_49 : decode cX2_beastOf 49 = .ok (.getfield 10, 3) := by decide +kernel
theorem dX2_beastOf_52 : decode cX2_beastOf 52 = .ok (.getfield 121, 3) := by decide +kernel
theorem dX2_beastOf_55 : decode cX2_beastOf 55 = .ok (.iload_n 1, 1) := by decide +kernel
theorem dX2_beastOf_56 : decode cX2_beastOf 56 = .ok (.iaload, 1) := by decide +kernel
theorem dX2_beastOf_57 : decode cX2_beastOf 57 = .ok (.ireturn, 1) := by decide +kernel
theorem dX2_beastOf_58 : decode cX2_beastOf 58 = .ok (.aload_n 0, 1) := by decide +kernel
theorem dX2_beastOf_59 : decode cX2_beastOf 59 = .ok (.getfield 10, 3) := by decide +kernel
theorem dX2_beastOf_62 : decode cX2_beastOf 62 = .ok (.getfield 124, 3) := by decide +kernel
theorem dX2_beastOf_65 : decode cX2_beastOf 65 = .ok (.iload_n 1, 1) := by decide +kernel
theorem dX2_beastOf_66 : decode cX2_beastOf 66 = .ok (.iaload, 1) := by decide +kernel
theorem dX2_beastOf_67 : decode cX2_beastOf 67 = .ok (.ireturn, 1) := by decide +kernel
theorem dX2_beastOf_68 : decode cX2_beastOf 68 = .ok (.aload_n 0, 1) := by decide +kernel
theorem dX2_beastOf_69 : decode cX2_beastOf 69 = .ok (.getfield 10, 3) := by decide +kernel
theorem dX2_beastOf_72 : decode cX2_beastOf 72 = .ok (.getfield 127, 3) := by decide +kernel
theorem dX2_beastOf_75 : decode cX2_beastOf 75 = .ok (.iload_n 1, 1) := by decide +kernel
theorem dX2_beastOf_76 : decode cX2_beastOf 76 = .ok (.iaload, 1) := by decide +kernel
theorem dX2_beastOf_77 : decode cX2_beastOf 77 = .ok (.ireturn, 1) := by decide +kernel
theorem dX2_beastOf_78 : decode cX2_beastOf 78 = .ok (.aload_n 0, 1) := by decide +kernel
theorem dX2_beastOf_79 : decode cX2_beastOf 79 = .ok (.getfield 10, 3) := by decide +kernel
theorem dX2_beastOf_82 : decode cX2_beastOf 82 = .ok (.getfield 130, 3) := by decide +kernel
theorem dX2_beastOf_85 : decode cX2_beastOf 85 = .ok (.iload_n 1, 1) := by decide +kernel
theorem dX2_beastOf_86 : decode cX2_beastOf 86 = .ok (.iaload, 1) := by decide +kernel
theorem dX2_beastOf_87 : decode cX2_beastOf 87 = .ok (.ireturn, 1) := by decide +kernel
theorem dX2_beastOf_88 : decode cX2_beastOf 88 = .ok (.aload_n 0, 1) := by decide +kernel
theorem dX2_beastOf_89 : decode cX2_beastOf 89 = .ok (.getfield 10, 3) := by decide +kernel
theorem dX2_beastOf_92 : decode cX2_beastOf 92 = .ok (.getfield 133, 3) := by decide +kernel
theorem dX2_beastOf_95 : decode cX2_beastOf 95 = .ok (.iload_n 1, 1) := by decide +kernel
theorem dX2_beastOf_96 : decode cX2_beastOf 96 = .ok (.iaload, 1) := by decide +kernel
theorem dX2_beastOf_97 : decode cX2_beastOf 97 = .ok (.ireturn, 1) := by decide +kernel
theorem dX2_beastOf_98 : decode cX2_beastOf 98 = .ok (.bipush (-102), 2) := by decide +kernel
theorem dX2_beastOf_100 : decode cX2_beastOf 100 = .ok (.ireturn, 1) := by decide +kernel
set_option maxRecDepth 20000 in
theorem ggX2_give_X1_hasBeast : GoodIn wsX2_give wsX1_hasBeast := goodIn_r _ [7, 8, 42, 43, 44, 45, 46, 47, 48, 49, 50, 51, 52, 53, 54, 55, 56, 57, 58] (by decide +kernel) (by decide +kernel)
set_option maxRecDepth 20000 in
theorem gX2_give_X1_hasBeast : GoodIn wsX2_give (wsV RX2 118 RX1 yX1_hasBeast wsX1_hasBeast) := goodIn_app (goodIn_of _ (by decide +kernel)) ggX2_give_X1_hasBeast
set_option maxRecDepth 20000 in
theorem ggX2_give_X1_hasHolder : GoodIn wsX2_give wsX1_hasHolder := goodIn_r _ [12, 13, 42, 43, 44, 45, 46, 47, 48, 49, 50, 51, 52, 53, 54, 55, 56, 57, 58] (by decide +kernel) (by decide +kernel)
set_option maxRecDepth 20000 in
theorem gX2_give_X1_hasHolder : GoodIn wsX2_give (wsV RX2 79 RX1 yX1_hasHolder wsX1_hasHolder) := goodIn_app (goodIn_of _ (by decide +kernel)) ggX2_give_X1_hasHolder
set_option maxRecDepth 20000 in
theorem ggX2_give_X1_mayGive : GoodIn wsX2_give wsX1_mayGive := goodIn_r _ [17, 18, 19, 4, 5, 6, 7, 8, 20, 21, 22, 23, 24, 25, 10, 11, 12, 13, 42, 43, 44, 45, 46, 47, 48, 49, 50, 51, 52, 53, 54, 55, 56, 57, 58] (by decide +kernel) (by decide +kernel)
set_option maxRecDepth 20000 in
theorem gX2_give_X1_mayGive : GoodIn wsX2_give (wsV RX2 136 RX1 yX1_mayGive wsX1_mayGive) := goodIn_app (goodIn_of _ (by decide +kernel)) ggX2_give_X1_mayGive
set_option maxRecDepth 20000 in
theorem ggX2_give_X1_makeGift : GoodIn wsX2_give wsX1_makeGift := goodIn_r _ [29, 30, 18, 31, 32, 33, 15, 16, 6, 17, 19, 4, 5, 7, 8, 20, 21, 22, 23, 24, 25, 10, 11, 12, 13, 42, 43, 44, 45, 46, 47, 48, 49, 50, 51, 52, 53, 54, 55, 56, 57, 58] (by decide +kernel) (by decide +kernel)
set_option maxRecDepth 20000 in
theorem gX2_give_X1_makeGift : GoodIn wsX2_give (wsV RX2 139 RX1 yX1_makeGift wsX1_makeGift) := goodIn_app (goodIn_of _ (by decide +kernel)) ggX2_give_X1_makeGift
theorem dX2_give_0 : decode cX2_give 0 = .ok (.aload_n 0, 1) := by decide +kernel
theorem dX2_give_1 : decode cX2_give 1 = .ok (.getfield 10, 3) := by decide +kernel
theorem dX2_give_4 : decode cX2_give 4 = .ok (.iload_n 1, 1) := by decide +kernel
theorem dX2_give_5 : decode cX2_give 5 = .ok (.invokevirtual 118, 3) := by decide +kernel
theorem dX2_give_8 : decode cX2_give 8 = .ok (.ifCond .eq 14, 3) := by decide +kernel
theorem dX2_give_11 : decode cX2_give 11 = .ok (.aload_n 0, 1) := by decide +kernel
theorem dX2_give_12 : decode cX2_give 12 = .ok (.getfield 10, 3) := by decide +kernel
theorem dX2_give_15 : decode cX2_give 15 = .ok (.iload_n 2, 1) := by decide +kernel
theorem dX2_give_16 : decode cX2_give 16 = .ok (.invokevirtual 79, 3) := by decide +kernel
theorem dX2_give_19 : decode cX2_give 19 = .ok (.ifCond .ne 6, 3) := by decide +kernel
theorem dX2_give_22 : decode cX2_give 22 = .ok (.bipush (-101), 2) := by decide +kernel
theorem dX2_give_24 : decode cX2_give 24 = .ok (.ireturn, 1) := by decide +kernel
theorem dX2_give_25 : decode cX2_give 25 = .ok (.aload_n 0, 1) := by decide +kernel
theorem dX2_give_26 : decode cX2_give 26 = .ok (.getfield 10, 3) := by decide +kernel
theorem dX2_give_29 : decode cX2_give 29 = .ok (.iload_n 1, 1) := by decide +kernel
theorem dX2_give_30 : decode cX2_give 30 = .ok (.iload_n 2, 1) := by decide +kernel
theorem dX2_give_31 : decode cX2_give 31 = .ok (.invokevirtual 136, 3) := by decide +kernel
theorem dX2_give_34 : decode cX2_give 34 = .ok (.ifCond .ne 6, 3) := by decide +kernel
theorem dX2_give_37 : decode cX2_give 37 = .ok (.bipush (-103), 2) := by decide +kernel
theorem dX2_give_39 : decode cX2_give 39 = .ok (.ireturn, 1) := by decide +kernel
theorem dX2_give_40 : decode cX2_give 40 = .ok (.aload_n 0, 1) := by decide +kernel
theorem dX2_give_41 : decode cX2_give 41 = .ok (.getfield 10, 3) := by decide +kernel
theorem dX2_give_44 : decode cX2_give 44 = .ok (.getfield 124, 3) := by decide +kernel
theorem dX2_give_47 : decode cX2_give 47 = .ok (.iload_n 1, 1) := by decide +kernel
theorem dX2_give_48 : decode cX2_give 48 = .ok (.iaload, 1) := by decide +kernel
theorem dX2_give_49 : decode cX2_give 49 = .ok (.istore_n 3, 1) := by decide +kernel
theorem dX2_give_50 : decode cX2_give 50 = .ok (.aload_n 0, 1) := by decide +kernel
theorem dX2_give_51 : decode cX2_give 51 = .ok (.getfield 10, 3) := by decide +kernel
theorem dX2_give_54 : decode cX2_give 54 = .ok (.iload_n 1, 1) := by decide +kernel
theorem dX2_give_55 : decode cX2_give 55 = .ok (.iload_n 2, 1) := by decide +kernel
theorem dX2_give_56 : decode cX2_give 56 = .ok (.invokevirtual 139, 3) := by decide +kernel
theorem dX2_give_59 : decode cX2_give 59 = .ok (.iload_n 3, 1) := by decide +kernel
theorem dX2_give_60 : decode cX2_give 60 = .ok (.ireturn, 1) := by decide +kernel
set_option maxRecDepth 20000 in
theorem ggX2_die_X1_hasHolder : GoodIn wsX2_die wsX1_hasHolder := goodIn_r _ [7, 8, 84, 85, 86, 87, 88, 89, 90, 91, 92, 93, 94, 95, 96, 97, 98, 99, 100] (by decide +kernel) (by decide +kernel)
set_option maxRecDepth 20000 in
theorem gX2_die_X1_hasHolder : GoodIn wsX2_die (wsV RX2 79 RX1 yX1_hasHolder wsX1_hasHolder) := goodIn_app (goodIn_of _ (by decide +kernel)) ggX2_die_X1_hasHolder
set_option maxRecDepth 20000 in
theorem ggX2_die_X1_bury : GoodIn wsX2_die wsX1_bury := goodIn_r _ [12, 13, 14, 15, 16, 17, 18, 19, 20, 6, 21, 22, 4, 5, 7, 8, 23, 24, 25, 26, 27, 28, 29, 30, 31, 32, 33, 34, 35, 36, 37, 38, 39, 40, 41, 42, 43, 44, 45, 46, 47, 48, 49, 50, 51, 52, 53, 54, 55, 56, 57, 58, 59, 60, 61, 62, 63, 64, 65, 66, 67, 68, 69, 70, 71, 72, 73, 74, 75, 84, 85, 86, 87, 88, 89, 90, 91, 92, 93, 94, 95, 96, 97, 98, 99, 100] (by decide +kernel) (by decide +kernel)
set_option maxRecDepth 20000 in
theorem gX2_die_X1_bury : GoodIn wsX2_die (wsV RX2 143 RX1 yX1_bury wsX1_bury) := goodIn_app (goodIn_of _ (by decide +kernel)) ggX2_die_X1_bury
theorem dX2_die_0 : decode cX2_die 0 = .ok (.aload_n 0, 1) := by decide +kernel
theorem dX2_die_1 : decode cX2_die 1 = .ok (.getfield 10, 3) := by decide +kernel
theorem dX2_die_4 : decode cX2_die 4 = .ok (.iload_n 1, 1) := by decide +kernel
theorem dX2_die_5 : decode cX2_die 5 = .ok (.invokevirtual 79, 3) := by decide +kernel
theorem dX2_die_8 : decode cX2_die 8 = .ok (.ifCond .ne 6, 3) := by decide +kernel
theorem dX2_die_11 : decode cX2_die 11 = .ok (.bipush (-101), 2) := by decide +kernel
theorem dX2_die_13 : decode cX2_die 13 = .ok (.ireturn, 1) := by decide +kernel
theorem dX2_die_14 : decode cX2_die 14 = .ok (.aload_n 0, 1) := by decide +kernel
theorem dX2_die_15 : decode cX2_die 15 = .ok (.getfield 10, 3) := by decide +kernel
theorem dX2_die_18 : decode cX2_die 18 = .ok (.getfield 88, 3) := by decide +kernel
theorem dX2_die_21 : decode cX2_die 21 = .ok (.iload_n 1, 1) := by decide +kernel
theorem dX2_die_22 : decode cX2_die 22 = .ok (.baload, 1) := by decide +kernel
theorem dX2_die_23 : decode cX2_die 23 = .ok (.ifCond .ne 6, 3) := by decide +kernel
theorem dX2_die_26 : decode cX2_die 26 = .ok (.bipush (-103), 2) := by decide +kernel
theorem dX2_die_28 : decode cX2_die 28 = .ok (.ireturn, 1) := by decide +kernel
theorem dX2_die_29 : decode cX2_die 29 = .ok (.aload_n 0, 1) := by decide +kernel
theorem dX2_die_30 : decode cX2_die 30 = .ok (.getfield 10, 3) := by decide +kernel
theorem dX2_die_33 : decode cX2_die 33 = .ok (.iload_n 1, 1) := by decide +kernel
theorem dX2_die_34 : decode cX2_die 34 = .ok (.invokevirtual 143, 3) := by decide +kernel
theorem dX2_die_37 : decode cX2_die 37 = .ok (.ireturn, 1) := by decide +kernel
theorem dX2_year_0 : decode cX2_year 0 = .ok (.aload_n 0, 1) := by decide +kernel
theorem dX2_year_1 : decode cX2_year 1 = .ok (.getfield 10, 3) := by decide +kernel
theorem dX2_year_4 : decode cX2_year 4 = .ok (.dup, 1) := by decide +kernel
theorem dX2_year_5 : decode cX2_year 5 = .ok (.getfield 146, 3) := by decide +kernel
theorem dX2_year_8 : decode cX2_year 8 = .ok (.iconst 1, 1) := by decide +kernel
theorem dX2_year_9 : decode cX2_year 9 = .ok (.iadd, 1) := by decide +kernel
theorem dX2_year_10 : decode cX2_year 10 = .ok (.putfield 146, 3) := by decide +kernel
theorem dX2_year_13 : decode cX2_year 13 = .ok (.aload_n 0, 1) := by decide +kernel
theorem dX2_year_14 : decode cX2_year 14 = .ok (.getfield 10, 3) := by decide +kernel
theorem dX2_year_17 : decode cX2_year 17 = .ok (.getfield 146, 3) := by decide +kernel
theorem dX2_year_20 : decode cX2_year 20 = .ok (.ireturn, 1) := by decide +kernel
set_option maxRecDepth 20000 in
theorem ggX2_safe_X1_hasHolder : GoodIn wsX2_safe wsX1_hasHolder := goodIn_r _ [7, 8, 81, 82, 83, 84, 85, 86, 87, 88, 89, 90, 91, 92, 93, 94, 95, 96, 97] (by decide +kernel) (by decide +kernel)
set_option maxRecDepth 20000 in
theorem gX2_safe_X1_hasHolder : GoodIn wsX2_safe (wsV RX2 79 RX1 yX1_hasHolder wsX1_hasHolder) := goodIn_app (goodIn_of _ (by decide +kernel)) ggX2_safe_X1_hasHolder
set_option maxRecDepth 20000 in
theorem ggX2_safe_X2_within : GoodIn wsX2_safe wsX2_within := goodIn_r _ [12] (by decide +kernel) (by decide +kernel)
set_option maxRecDepth 20000 in
theorem gX2_safe_X2_within : GoodIn wsX2_safe (va_wsS RX2 44 yX2_within wsX2_within) := goodIn_app (goodIn_of _ (by decide +kernel)) ggX2_safe_X2_within
set_option maxRecDepth 20000 in
theorem ggX2_safe_X1_fewestToBeSafe : GoodIn wsX2_safe wsX1_fewestToBeSafe := goodIn_r _ [16, 17, 18, 19, 6, 20, 21, 22, 23, 24, 25, 26, 27, 28, 29, 30, 31, 32, 33, 34, 35, 36, 37, 38, 39, 40, 41, 42, 43, 44, 4, 5, 7, 8, 45, 46, 47, 48, 49, 50, 51, 52, 53, 54, 55, 56, 57, 58, 59, 60, 61, 62, 63, 64, 65, 66, 67, 68, 69, 70, 71, 81, 82, 83, 84, 85, 86, 87, 88, 89, 90, 91, 92, 93, 94, 95, 96, 97] (by decide +kernel) (by decide +kernel)
set_option maxRecDepth 20000 in
theorem gX2_safe_X1_fewestToBeSafe : GoodIn wsX2_safe (wsV RX2 149 RX1 yX1_fewestToBeSafe wsX1_fewestToBeSafe) := goodIn_app (goodIn_of _ (by decide +kernel)) ggX2_safe_X1_fewestToBeSafe
set_option maxRecDepth 20000 in
theorem ggX2_safe_J6_bitCount_0f7a4 : GoodIn wsX2_safe wsJ6_bitCount_0f7a4 := goodIn_r _ [68, 69, 70, 71] (by decide +kernel) (by decide +kernel)
set_option maxRecDepth 20000 in
theorem gX2_safe_J6_bitCount_0f7a4 : GoodIn wsX2_safe (va_wsS RX2 152 yJ6_bitCount_0f7a4 wsJ6_bitCount_0f7a4) := goodIn_app (goodIn_of _ (by decide +kernel)) ggX2_safe_J6_bitCount_0f7a4
theorem dX2_safe_0 : decode cX2_safe 0 = .ok (.aload_n 0, 1) := by decide +kernel
theorem dX2_safe_1 : decode cX2_safe 1 = .ok (.getfield 10, 3) := by decide +kernel
theorem dX2_safe_4 : decode cX2_safe 4 = .ok (.iload_n 1, 1) := by decide +kernel
theorem dX2_safe_5 : decode cX2_safe 5 = .ok (.invokevirtual 79, 3) := by decide +kernel
theorem dX2_safe_8 : decode cX2_safe 8 = .ok (.ifCond .ne 6, 3) := by decide +kernel
theorem dX2_safe_11 : decode cX2_safe 11 = .ok (.bipush (-101), 2) := by decide +kernel
theorem dX2_safe_13 : decode cX2_safe 13 = .ok (.ireturn, 1) := by decide +kernel
theorem dX2_safe_14 : decode cX2_safe 14 = .ok (.iload_n 2, 1) := by decide +kernel
theorem dX2_safe_15 : decode cX2_safe 15 = .ok (.iconst 0, 1) := by decide +kernel
theorem dX2_safe_16 : decode cX2_safe 16 = .ok (.iconst 1, 1) := by decide +kernel
theorem dX2_safe_17 : decode cX2_safe 17 = .ok (.invokestatic 44, 3) := by decide +kernel
theorem dX2_safe_20 : decode cX2_safe 20 = .ok (.ifCond .ne 6, 3) := by decide +kernel
theorem dX2_safe_23 : decode cX2_safe 23 = .ok (.bipush (-102), 2) := by decide +kernel
theorem dX2_safe_25 : decode cX2_safe 25 = .ok (.ireturn, 1) := by decide +kernel
theorem dX2_safe_26 : decode cX2_safe 26 = .ok (.aload_n 0, 1) := by decide +kernel
theorem dX2_safe_27 : decode cX2_safe 27 = .ok (.getfield 10, 3) := by decide +kernel
theorem dX2_safe_30 : decode cX2_safe 30 = .ok (.getfield 88, 3) := by decide +kernel
theorem dX2_safe_33 : decode cX2_safe 33 = .ok (.iload_n 1, 1) := by decide +kernel
theorem dX2_safe_34 : decode cX2_safe 34 = .ok (.baload, 1) := by decide +kernel
theorem dX2_safe_35 : decode cX2_safe 35 = .ok (.ifCond .ne 6, 3) := by decide +kernel
theorem dX2_safe_38 : decode cX2_safe 38 = .ok (.bipush (-103), 2) := by decide +kernel
theorem dX2_safe_40 : decode cX2_safe 40 = .ok (.ireturn, 1) := by decide +kernel
theorem dX2_safe_41 : decode cX2_safe 41 = .ok (.aload_n 0, 1) := by decide +kernel
theorem dX2_safe_42 : decode cX2_safe 42 = .ok (.getfield 10, 3) := by decide +kernel
theorem dX2_safe_45 : decode cX2_safe 45 = .ok (.iload_n 1, 1) := by decide +kernel
theorem dX2_safe_46 : decode cX2_safe 46 = .ok (.invokevirtual 149, 3) := by decide +kernel
theorem dX2_safe_49 : decode cX2_safe 49 = .ok (.istore_n 3, 1) := by decide +kernel
theorem dX2_safe_50 : decode cX2_safe 50 = .ok (.iload_n 2, 1) := by decide +kernel
theorem dX2_safe_51 : decode cX2_safe 51 = .ok (.ifCond .ne 15, 3) := by decide +kernel
theorem dX2_safe_54 : decode cX2_safe 54 = .ok (.iload_n 3, 1) := by decide +kernel
theorem dX2_safe_55 : decode cX2_safe 55 = .ok (.iconst (-1), 1) := by decide +kernel
theorem dX2_safe_56 : decode cX2_safe 56 = .ok (.if_icmp .eq 10, 3) := by decide +kernel
theorem dX2_safe_59 : decode cX2_safe 59 = .ok (.iload_n 3, 1) := by decide +kernel
theorem dX2_safe_60 : decode cX2_safe 60 = .ok (.invokestatic 152, 3) := by decide +kernel
theorem dX2_safe_63 : decode cX2_safe 63 = .ok (.goto 4, 3) := by decide +kernel
theorem dX2_safe_66 : decode cX2_safe 66 = .ok (.iload_n 3, 1) := by decide +kernel
theorem dX2_safe_67 : decode cX2_safe 67 = .ok (.ireturn, 1) := by decide +kernel
set_option maxRecDepth 20000 in
theorem ggX2_giving_X1_hasHolder : GoodIn wsX2_giving wsX1_hasHolder := goodIn_r _ [7, 8, 85, 86, 87, 88, 89, 90, 91, 92, 93, 94, 95, 96, 97, 98, 99, 100, 101] (by decide +kernel) (by decide +kernel)
set_option maxRecDepth 20000 in
theorem gX2_giving_X1_hasHolder : GoodIn wsX2_giving (wsV RX2 79 RX1 yX1_hasHolder wsX1_hasHolder) := goodIn_app (goodIn_of _ (by decide +kernel)) ggX2_giving_X1_hasHolder
set_option maxRecDepth 20000 in
theorem ggX2_giving_X2_within : GoodIn wsX2_giving wsX2_within := goodIn_r _ [12] (by decide +kernel) (by decide +kernel)
set_option maxRecDepth 20000 in
theorem gX2_giving_X2_within : GoodIn wsX2_giving (va_wsS RX2 44 yX2_within wsX2_within) := goodIn_app (goodIn_of _ (by decide +kernel)) ggX2_giving_X2_within
set_option maxRecDepth 20000 in
theorem ggX2_giving_X1_bestGift : GoodIn wsX2_giving wsX1_bestGift := goodIn_r _ [16, 17, 18, 19, 6, 20, 21, 22, 23, 24, 25, 26, 27, 28, 29, 30, 31, 32, 4, 5, 7, 8, 33, 34, 35, 36, 37, 38, 39, 40, 41, 42, 43, 44, 45, 46, 47, 48, 49, 50, 51, 52, 53, 54, 55, 56, 57, 58, 59, 60, 61, 62, 63, 64, 65, 66, 67, 68, 69, 70, 71, 72, 73, 74, 75, 76, 85, 86, 87, 88, 89, 90, 91, 92, 93, 94, 95, 96, 97, 98, 99, 100, 101] (by decide +kernel) (by decide +kernel)
set_option maxRecDepth 20000 in
theorem gX2_giving_X1_bestGift : GoodIn wsX2_giving (wsV RX2 157 RX1 yX1_bestGift wsX1_bestGift) := goodIn_app (goodIn_of _ (by decide +kernel)) ggX2_giving_X1_bestGift
theorem dX2_giving_0 : decode cX2_giving 0 = .ok (.aload_n 0, 1) := by decide +kernel
theorem dX2_giving_1 : decode cX2_giving 1 = .ok (.getfield 10, 3) := by decide +kernel
theorem dX2_giving_4 : decode cX2_giving 4 = .ok (.iload_n 1, 1) := by decide +kernel
theorem dX2_giving_5 : decode cX2_giving 5 = .ok (.invokevirtual 79, 3) := by decide +kernel
theorem dX2_giving_8 : decode cX2_giving 8 = .ok (.ifCond .ne 6, 3) := by decide +kernel
theorem dX2_giving_11 : decode cX2_giving 11 = .ok (.bipush (-101), 2) := by decide +kernel
theorem dX2_giving_13 : decode cX2_giving 13 = .ok (.ireturn, 1) := by decide +kernel
theorem dX2_giving_14 : decode cX2_giving 14 = .ok (.iload_n 2, 1) := by decide +kernel
theorem dX2_giving_15 : decode cX2_giving 15 = .ok (.iconst 1, 1) := by decide +kernel
theorem dX2_giving_16 : decode cX2_giving 16 = .ok (.iconst 4, 1) := by decide +kernel
theorem dX2_giving_17 : decode cX2_giving 17 = .ok (.invokestatic 44, 3) := by decide +kernel
theorem dX2_giving_20 : decode cX2_giving 20 = .ok (.ifCond .ne 6, 3) := by decide +kernel
theorem dX2_giving_23 : decode cX2_giving 23 = .ok (.bipush (-102), 2) := by decide +kernel
theorem dX2_giving_25 : decode cX2_giving 25 = .ok (.ireturn, 1) := by decide +kernel
theorem dX2_giving_26 : decode cX2_giving 26 = .ok (.aload_n 0, 1) := by decide +kernel
theorem dX2_giving_27 : decode cX2_giving 27 = .ok (.getfield 10, 3) := by decide +kernel
theorem dX2_giving_30 : decode cX2_giving 30 = .ok (.getfield 88, 3) := by decide +kernel
theorem dX2_giving_33 : decode cX2_giving 33 = .ok (.iload_n 1, 1) := by decide +kernel
theorem dX2_giving_34 : decode cX2_giving 34 = .ok (.baload, 1) := by decide +kernel
theorem dX2_giving_35 : decode cX2_giving 35 = .ok (.ifCond .ne 6, 3) := by decide +kernel
theorem dX2_giving_38 : decode cX2_giving 38 = .ok (.bipush (-103), 2) := by decide +kernel
theorem dX2_giving_40 : decode cX2_giving 40 = .ok (.ireturn, 1) := by decide +kernel
theorem dX2_giving_41 : decode cX2_giving 41 = .ok (.aload_n 0, 1) := by decide +kernel
theorem dX2_giving_42 : decode cX2_giving 42 = .ok (.getfield 10, 3) := by decide +kernel
theorem dX2_giving_45 : decode cX2_giving 45 = .ok (.iload_n 1, 1) := by decide +kernel
theorem dX2_giving_46 : decode cX2_giving 46 = .ok (.iload_n 2, 1) := by decide +kernel
theorem dX2_giving_47 : decode cX2_giving 47 = .ok (.invokevirtual 157, 3) := by decide +kernel
theorem dX2_giving_50 : decode cX2_giving 50 = .ok (.ireturn, 1) := by decide +kernel
set_option maxRecDepth 20000 in
theorem ggX2_mean_X1_hasHolder : GoodIn wsX2_mean wsX1_hasHolder := goodIn_r _ [7, 8, 92, 93, 94, 95, 96, 97, 98, 99, 100, 101, 102, 103, 104, 105, 106, 107, 108] (by decide +kernel) (by decide +kernel)
set_option maxRecDepth 20000 in
theorem gX2_mean_X1_hasHolder : GoodIn wsX2_mean (wsV RX2 79 RX1 yX1_hasHolder wsX1_hasHolder) := goodIn_app (goodIn_of _ (by decide +kernel)) ggX2_mean_X1_hasHolder
set_option maxRecDepth 20000 in
theorem ggX2_mean_X2_within : GoodIn wsX2_mean wsX2_within := goodIn_r _ [12] (by decide +kernel) (by decide +kernel)
set_option maxRecDepth 20000 in
theorem gX2_mean_X2_within : GoodIn wsX2_mean (va_wsS RX2 44 yX2_within wsX2_within) := goodIn_app (goodIn_of _ (by decide +kernel)) ggX2_mean_X2_within
set_option maxRecDepth 20000 in
theorem ggX2_mean_X1_bestGift : GoodIn wsX2_mean wsX1_bestGift := goodIn_r _ [16, 17, 18, 19, 6, 20, 21, 22, 23, 24, 25, 26, 27, 28, 29, 30, 31, 32, 4, 5, 7, 8, 33, 34, 35, 36, 37, 38, 39, 40, 41, 42, 43, 44, 45, 46, 47, 48, 49, 50, 51, 52, 53, 54, 55, 56, 57, 58, 59, 60, 61, 62, 63, 64, 65, 66, 67, 68, 69, 70, 71, 72, 73, 74, 75, 76, 92, 93, 94, 95, 96, 97, 98, 99, 100, 101, 102, 103, 104, 105, 106, 107, 108] (by decide +kernel) (by decide +kernel)
set_option maxRecDepth 20000 in
theorem gX2_mean_X1_bestGift : GoodIn wsX2_mean (wsV RX2 157 RX1 yX1_bestGift wsX1_bestGift) := goodIn_app (goodIn_of _ (by decide +kernel)) ggX2_mean_X1_bestGift
set_option maxRecDepth 20000 in
theorem ggX2_mean_X1_lostOnMean : GoodIn wsX2_mean wsX1_lostOnMean := goodIn_r _ [30, 31, 32, 4, 5, 6, 7, 8, 33, 34, 35, 36, 37, 21, 38, 39, 40, 17, 18, 19, 20, 22, 23, 24, 25, 26, 41, 42, 43, 44, 45, 46, 47, 48, 49, 50, 51, 52, 53, 54, 55, 56, 57, 58, 59, 60, 61, 62, 63, 64, 65, 66, 67, 68, 69, 92, 93, 94, 95, 96, 97, 98, 99, 100, 101, 102, 103, 104, 105, 106, 107, 108] (by decide +kernel) (by decide +kernel)
set_option maxRecDepth 20000 in
theorem gX2_mean_X1_lostOnMean : GoodIn wsX2_mean (wsV RX2 160 RX1 yX1_lostOnMean wsX1_lostOnMean) := goodIn_app (goodIn_of _ (by decide +kernel)) ggX2_mean_X1_lostOnMean
set_option maxRecDepth 20000 in
theorem ggX2_mean_X2_powerOfTen : GoodIn wsX2_mean wsX2_powerOfTen := goodIn_r _ [80] (by decide +kernel) (by decide +kernel)
set_option maxRecDepth 20000 in
theorem gX2_mean_X2_powerOfTen : GoodIn wsX2_mean (va_wsS RX2 164 yX2_powerOfTen wsX2_powerOfTen) := goodIn_app (goodIn_of _ (by decide +kernel)) ggX2_mean_X2_powerOfTen
set_option maxRecDepth 20000 in
theorem ggX2_mean_X2_commonDivisor : GoodIn wsX2_mean wsX2_commonDivisor := goodIn_r _ [83] (by decide +kernel) (by decide +kernel)
set_option maxRecDepth 20000 in
theorem gX2_mean_X2_commonDivisor : GoodIn wsX2_mean (va_wsS RX2 167 yX2_commonDivisor wsX2_commonDivisor) := goodIn_app (goodIn_of _ (by decide +kernel)) ggX2_mean_X2_commonDivisor
theorem dX2_mean_0 : decode cX2_mean 0 = .ok (.aload_n 0, 1) := by decide +kernel
theorem dX2_mean_1 : decode cX2_mean 1 = .ok (.getfield 10, 3) := by decide +kernel
theorem dX2_mean_4 : decode cX2_mean 4 = .ok (.iload_n 1, 1) := by decide +kernel
theorem dX2_mean_5 : decode cX2_mean 5 = .ok (.invokevirtual 79, 3) := by decide +kernel
theorem dX2_mean_8 : decode cX2_mean 8 = .ok (.ifCond .ne 6, 3) := by decide +kernel
theorem dX2_mean_11 : decode cX2_mean 11 = .ok (.bipush (-101), 2) := by decide +kernel
theorem dX2_mean_13 : decode cX2_mean 13 = .ok (.ireturn, 1) := by decide +kernel
theorem dX2_mean_14 : decode cX2_mean 14 = .ok (.iload_n 2, 1) := by decide +kernel
theorem dX2_mean_15 : decode cX2_mean 15 = .ok (.iconst 1, 1) := by decide +kernel
theorem dX2_mean_16 : decode cX2_mean 16 = .ok (.iconst 4, 1) := by decide +kernel
theorem dX2_mean_17 : decode cX2_mean 17 = .ok (.invokestatic 44, 3) := by decide +kernel
theorem dX2_mean_20 : decode cX2_mean 20 = .ok (.ifCond .eq 12, 3) := by decide +kernel
theorem dX2_mean_23 : decode cX2_mean 23 = .ok (.iload_n 3, 1) := by decide +kernel
theorem dX2_mean_24 : decode cX2_mean 24 = .ok (.iconst 0, 1) := by decide +kernel
theorem dX2_mean_25 : decode cX2_mean 25 = .ok (.iconst 1, 1) := by decide +kernel
theorem dX2_mean_26 : decode cX2_mean 26 = .ok (.invokestatic 44, 3) := by decide +kernel
theorem dX2_mean_29 : decode cX2_mean 29 = .ok (.ifCond .ne 6, 3) := by decide +kernel
theorem dX2_mean_32 : decode cX2_mean 32 = .ok (.bipush (-102), 2) := by decide +kernel
theorem dX2_mean_34 : decode cX2_mean 34 = .ok (.ireturn, 1) := by decide +kernel
theorem dX2_mean_35 : decode cX2_mean 35 = .ok (.aload_n 0, 1) := by decide +kernel
theorem dX2_mean_36 : decode cX2_mean 36 = .ok (.getfield 10, 3) := by decide +kernel
theorem dX2_mean_39 : decode cX2_mean 39 = .ok (.getfield 88, 3) := by decide +kernel
theorem dX2_mean_42 : decode cX2_mean 42 = .ok (.iload_n 1, 1) := by decide +kernel
theorem dX2_mean_43 : decode cX2_mean 43 = .ok (.baload, 1) := by decide +kernel
theorem dX2_mean_44 : decode cX2_mean 44 = .ok (.ifCond .ne 6, 3) := by decide +kernel
theorem dX2_mean_47 : decode cX2_mean 47 = .ok (.bipush (-103), 2) := by decide +kernel
theorem dX2_mean_49 : decode cX2_mean 49 = .ok (.ireturn, 1) := by decide +kernel
theorem dX2_mean_50 : decode cX2_mean 50 = .ok (.aload_n 0, 1) := by decide +kernel
theorem dX2_mean_51 : decode cX2_mean 51 = .ok (.getfield 10, 3) := by decide +kernel
theorem dX2_mean_54 : decode cX2_mean 54 = .ok (.iload_n 1, 1) := by decide +kernel
theorem dX2_mean_55 : decode cX2_mean 55 = .ok (.iload_n 2, 1) := by decide +kernel
theorem dX2_mean_56 : decode cX2_mean 56 = .ok (.aload_n 0, 1) := by decide +kernel
theorem dX2_mean_57 : decode cX2_mean 57 = .ok (.getfield 10, 3) := by decide +kernel
theorem dX2_mean_60 : decode cX2_mean 60 = .ok (.iload_n 1, 1) := by decide +kernel
theorem dX2_mean_61 : decode cX2_mean 61 = .ok (.iload_n 2, 1) := by decide +kernel
theorem dX2_mean_62 : decode cX2_mean 62 = .ok (.invokevirtual 157, 3) := by decide +kernel
theorem dX2_mean_65 : decode cX2_mean 65 = .ok (.invokevirtual 160, 3) := by decide +kernel
theorem dX2_mean_68 : decode cX2_mean 68 = .ok (.istore 4, 2) := by decide +kernel
theorem dX2_mean_70 : decode cX2_mean 70 = .ok (.iload_n 2, 1) := by decide +kernel
theorem dX2_mean_71 : decode cX2_mean 71 = .ok (.invokestatic 164, 3) := by decide +kernel
theorem dX2_mean_74 : decode cX2_mean 74 = .ok (.istore 5, 2) := by decide +kernel
theorem dX2_mean_76 : decode cX2_mean 76 = .ok (.iload 4, 2) := by decide +kernel
theorem dX2_mean_78 : decode cX2_mean 78 = .ok (.iload 5, 2) := by decide +kernel
theorem dX2_mean_80 : decode cX2_mean 80 = .ok (.invokestatic 167, 3) := by decide +kernel
theorem dX2_mean_83 : decode cX2_mean 83 = .ok (.istore 6, 2) := by decide +kernel
theorem dX2_mean_85 : decode cX2_mean 85 = .ok (.iload 6, 2) := by decide +kernel
theorem dX2_mean_87 : decode cX2_mean 87 = .ok (.ifCond .ne 5, 3) := by decide +kernel
theorem dX2_mean_90 : decode cX2_mean 90 = .ok (.iconst 0, 1) := by decide +kernel
theorem dX2_mean_91 : decode cX2_mean 91 = .ok (.ireturn, 1) := by decide +kernel
theorem dX2_mean_92 : decode cX2_mean 92 = .ok (.iload_n 3, 1) := by decide +kernel
theorem dX2_mean_93 : decode cX2_mean 93 = .ok (.ifCond .ne 8, 3) := by decide +kernel
theorem dX2_mean_96 : decode cX2_mean 96 = .ok (.iload 4, 2) := by decide +kernel
theorem dX2_mean_98 : decode cX2_mean 98 = .ok (.goto 5, 3) := by decide +kernel
theorem dX2_mean_101 : decode cX2_mean 101 = .ok (.iload 5, 2) := by decide +kernel
theorem dX2_mean_103 : decode cX2_mean 103 = .ok (.iload 6, 2) := by decide +kernel
theorem dX2_mean_105 : decode cX2_mean 105 = .ok (.idiv, 1) := by decide +kernel
theorem dX2_mean_106 : decode cX2_mean 106 = .ok (.ireturn, 1) := by decide +kernel
theorem dX2_powerOfTen_0 : decode cX2_powerOfTen 0 = .ok (.iconst 1, 1) := by decide +kernel
theorem dX2_powerOfTen_1 : decode cX2_powerOfTen 1 = .ok (.istore_n 1, 1) := by decide +kernel
theorem dX2_powerOfTen_2 : decode cX2_powerOfTen 2 = .ok (.iconst 0, 1) := by decide +kernel
theorem dX2_powerOfTen_3 : decode cX2_powerOfTen 3 = .ok (.istore_n 2, 1) := by decide +kernel
theorem dX2_powerOfTen_4 : decode cX2_powerOfTen 4 = .ok (.iload_n 2, 1) := by decide +kernel
theorem dX2_powerOfTen_5 : decode cX2_powerOfTen 5 = .ok (.iload_n 0, 1) := by decide +kernel
theorem dX2_powerOfTen_6 : decode cX2_powerOfTen 6 = .ok (.if_icmp .ge 14, 3) := by decide +kernel
theorem dX2_powerOfTen_9 : decode cX2_powerOfTen 9 = .ok (.iload_n 1, 1) := by decide +kernel
theorem dX2_powerOfTen_10 : decode cX2_powerOfTen 10 = .ok (.bipush 10, 2) := by decide +kernel
theorem dX2_powerOfTen_12 : decode cX2_powerOfTen 12 = .ok (.imul, 1) := by decide +kernel
theorem dX2_powerOfTen_13 : decode cX2_powerOfTen 13 = .ok (.istore_n 1, 1) := by decide +kernel
theorem dX2_powerOfTen_14 : decode cX2_powerOfTen 14 = .ok (.iinc 2 1, 3) := by decide +kernel
theorem dX2_powerOfTen_17 : decode cX2_powerOfTen 17 = .ok (.goto (-13), 3) := by decide +kernel
theorem dX2_powerOfTen_20 : decode cX2_powerOfTen 20 = .ok (.iload_n 1, 1) := by decide +kernel
theorem dX2_powerOfTen_21 : decode cX2_powerOfTen 21 = .ok (.ireturn, 1) := by decide +kernel
theorem dX2_commonDivisor_0 : decode cX2_commonDivisor 0 = .ok (.iload_n 0, 1) := by decide +kernel
theorem dX2_commonDivisor_1 : decode cX2_commonDivisor 1 = .ok (.istore_n 2, 1) := by decide +kernel
theorem dX2_commonDivisor_2 : decode cX2_commonDivisor 2 = .ok (.iload_n 1, 1) := by decide +kernel
theorem dX2_commonDivisor_3 : decode cX2_commonDivisor 3 = .ok (.istore_n 3, 1) := by decide +kernel
theorem dX2_commonDivisor_4 : decode cX2_commonDivisor 4 = .ok (.iconst 0, 1) := by decide +kernel
theorem dX2_commonDivisor_5 : decode cX2_commonDivisor 5 = .ok (.istore 4, 2) := by decide +kernel
theorem dX2_commonDivisor_7 : decode cX2_commonDivisor 7 = .ok (.iload 4, 2) := by decide +kernel
theorem dX2_commonDivisor_9 : decode cX2_commonDivisor 9 = .ok (.sipush 1000, 3) := by decide +kernel
theorem dX2_commonDivisor_12 : decode cX2_commonDivisor 12 = .ok (.if_icmp .ge 23, 3) := by decide +kernel
theorem dX2_commonDivisor_15 : decode cX2_commonDivisor 15 = .ok (.iload_n 3, 1) := by decide +kernel
theorem dX2_commonDivisor_16 : decode cX2_commonDivisor 16 = .ok (.ifCond .eq 19, 3) := by decide +kernel
theorem dX2_commonDivisor_19 : decode cX2_commonDivisor 19 = .ok (.iload_n 2, 1) := by decide +kernel
theorem dX2_commonDivisor_20 : decode cX2_commonDivisor 20 = .ok (.iload_n 3, 1) := by decide +kernel
theorem dX2_commonDivisor_21 : decode cX2_commonDivisor 21 = .ok (.irem, 1) := by decide +kernel
theorem dX2_commonDivisor_22 : decode cX2_commonDivisor 22 = .ok (.istore 5, 2) := by decide +kernel
theorem dX2_commonDivisor_24 : decode cX2_commonDivisor 24 = .ok (.iload_n 3, 1) := by decide +kernel
theorem dX2_commonDivisor_25 : decode cX2_commonDivisor 25 = .ok (.istore_n 2, 1) := by decide +kernel
theorem dX2_commonDivisor_26 : decode cX2_commonDivisor 26 = .ok (.iload 5, 2) := by decide +kernel
theorem dX2_commonDivisor_28 : decode cX2_commonDivisor 28 = .ok (.istore_n 3, 1) := by decide +kernel
theorem dX2_commonDivisor_29 : decode cX2_commonDivisor 29 = .ok (.iinc 4 1, 3) := by decide +kernel
theorem dX2_commonDivisor_32 : decode cX2_commonDivisor 32 = .ok (.goto (-25), 3) := by decide +kernel
theorem dX2_commonDivisor_35 : decode cX2_commonDivisor 35 = .ok (.iload_n 2, 1) := by decide +kernel
theorem dX2_commonDivisor_36 : decode cX2_commonDivisor 36 = .ok (.ireturn, 1) := by decide +kernel
set_option maxRecDepth 20000 in
theorem ggX2_roll_X1_hasBeast : GoodIn wsX2_roll wsX1_hasBeast := goodIn_r _ [7, 8, 21, 22, 23, 24, 25, 26, 27, 28, 29, 30, 31, 32, 33, 34, 35, 36, 37] (by decide +kernel) (by decide +kernel)
set_option maxRecDepth 20000 in
theorem gX2_roll_X1_hasBeast : GoodIn wsX2_roll (wsV RX2 118 RX1 yX1_hasBeast wsX1_hasBeast) := goodIn_app (goodIn_of _ (by decide +kernel)) ggX2_roll_X1_hasBeast
set_option maxRecDepth 20000 in
theorem ggX2_roll_X2_within : GoodIn wsX2_roll wsX2_within := goodIn_r _ [12] (by decide +kernel) (by decide +kernel)
set_option maxRecDepth 20000 in
theorem gX2_roll_X2_within : GoodIn wsX2_roll (va_wsS RX2 44 yX2_within wsX2_within) := goodIn_app (goodIn_of _ (by decide +kernel)) ggX2_roll_X2_within
theorem dX2_roll_0 : decode cX2_roll 0 = .ok (.aload_n 0, 1) := by decide +kernel
theorem dX2_roll_1 : decode cX2_roll 1 = .ok (.getfield 10, 3) := by decide +kernel
theorem dX2_roll_4 : decode cX2_roll 4 = .ok (.iload_n 1, 1) := by decide +kernel
theorem dX2_roll_5 : decode cX2_roll 5 = .ok (.invokevirtual 118, 3) := by decide +kernel
theorem dX2_roll_8 : decode cX2_roll 8 = .ok (.ifCond .ne 6, 3) := by decide +kernel
theorem dX2_roll_11 : decode cX2_roll 11 = .ok (.bipush (-101), 2) := by decide +kernel
theorem dX2_roll_13 : decode cX2_roll 13 = .ok (.ireturn, 1) := by decide +kernel
theorem dX2_roll_14 : decode cX2_roll 14 = .ok (.iload_n 2, 1) := by decide +kernel
theorem dX2_roll_15 : decode cX2_roll 15 = .ok (.iconst (-1), 1) := by decide +kernel
theorem dX2_roll_16 : decode cX2_roll 16 = .ok (.iconst 1, 1) := by decide +kernel
theorem dX2_roll_17 : decode cX2_roll 17 = .ok (.invokestatic 44, 3) := by decide +kernel
theorem dX2_roll_20 : decode cX2_roll 20 = .ok (.ifCond .ne 6, 3) := by decide +kernel
theorem dX2_roll_23 : decode cX2_roll 23 = .ok (.bipush (-102), 2) := by decide +kernel
theorem dX2_roll_25 : decode cX2_roll 25 = .ok (.ireturn, 1) := by decide +kernel
theorem dX2_roll_26 : decode cX2_roll 26 = .ok (.aload_n 0, 1) := by decide +kernel
theorem dX2_roll_27 : decode cX2_roll 27 = .ok (.getfield 10, 3) := by decide +kernel
theorem dX2_roll_30 : decode cX2_roll 30 = .ok (.getfield 133, 3) := by decide +kernel
theorem dX2_roll_33 : decode cX2_roll 33 = .ok (.iload_n 1, 1) := by decide +kernel
theorem dX2_roll_34 : decode cX2_roll 34 = .ok (.iaload, 1) := by decide +kernel
theorem dX2_roll_35 : decode cX2_roll 35 = .ok (.istore_n 3, 1) := by decide +kernel
theorem dX2_roll_36 : decode cX2_roll 36 = .ok (.aload_n 0, 1) := by decide +kernel
theorem dX2_roll_37 : decode cX2_roll 37 = .ok (.getfield 10, 3) := by decide +kernel
theorem dX2_roll_40 : decode cX2_roll 40 = .ok (.getfield 133, 3) := by decide +kernel
theorem dX2_roll_43 : decode cX2_roll 43 = .ok (.iload_n 1, 1) := by decide +kernel
theorem dX2_roll_44 : decode cX2_roll 44 = .ok (.iload_n 2, 1) := by decide +kernel
theorem dX2_roll_45 : decode cX2_roll 45 = .ok (.iastore, 1) := by decide +kernel
theorem dX2_roll_46 : decode cX2_roll 46 = .ok (.iload_n 3, 1) := by decide +kernel
theorem dX2_roll_47 : decode cX2_roll 47 = .ok (.ireturn, 1) := by decide +kernel
set_option maxRecDepth 20000 in
theorem ggX2_whose_X1_hasBeast : GoodIn wsX2_whose wsX1_hasBeast := goodIn_r _ [9, 10, 93, 94, 95, 96, 97, 98, 99, 100, 101, 102, 103, 104, 105, 106, 107, 108, 109] (by decide +kernel) (by decide +kernel)
set_option maxRecDepth 20000 in
theorem gX2_whose_X1_hasBeast : GoodIn wsX2_whose (wsV RX2 118 RX1 yX1_hasBeast wsX1_hasBeast) := goodIn_app (goodIn_of _ (by decide +kernel)) ggX2_whose_X1_hasBeast
set_option maxRecDepth 20000 in
theorem ggX2_whose_X1_hasHolder : GoodIn wsX2_whose wsX1_hasHolder := goodIn_r _ [14, 15, 93, 94, 95, 96, 97, 98, 99, 100, 101, 102, 103, 104, 105, 106, 107, 108, 109] (by decide +kernel) (by decide +kernel)
set_option maxRecDepth 20000 in
theorem gX2_whose_X1_hasHolder : GoodIn wsX2_whose (wsV RX2 79 RX1 yX1_hasHolder wsX1_hasHolder) := goodIn_app (goodIn_of _ (by decide +kernel)) ggX2_whose_X1_hasHolder
set_option maxRecDepth 20000 in
theorem ggX2_whose_X1_copyFrom : GoodIn wsX2_whose wsX1_copyFrom := goodIn_r _ [19, 20, 21, 22, 23, 15, 10, 24, 25, 26, 27, 28, 29, 30, 31, 32, 33, 34, 35, 36, 37, 38, 93, 94, 95, 96, 97, 98, 99, 100, 101, 102, 103, 104, 105, 106, 107, 108, 109] (by decide +kernel) (by decide +kernel)
set_option maxRecDepth 20000 in
theorem gX2_whose_X1_copyFrom : GoodIn wsX2_whose (wsV RX2 170 RX1 yX1_copyFrom wsX1_copyFrom) := goodIn_app (goodIn_of _ (by decide +kernel)) ggX2_whose_X1_copyFrom
set_option maxRecDepth 20000 in
theorem ggX2_whose_X1_isAlive : GoodIn wsX2_whose wsX1_isAlive := goodIn_r _ [42, 33, 43, 12, 13, 8, 14, 15, 93, 94, 95, 96, 97, 98, 99, 100, 101, 102, 103, 104, 105, 106, 107, 108, 109] (by decide +kernel) (by decide +kernel)
set_option maxRecDepth 20000 in
theorem gX2_whose_X1_isAlive : GoodIn wsX2_whose (wsV RX2 177 RX1 yX1_isAlive wsX1_isAlive) := goodIn_app (goodIn_of _ (by decide +kernel)) ggX2_whose_X1_isAlive
set_option maxRecDepth 20000 in
theorem ggX2_whose_X1_putTo : GoodIn wsX2_whose wsX1_putTo := goodIn_r _ [47, 35, 36, 37, 48, 6, 7, 8, 9, 10, 93, 94, 95, 96, 97, 98, 99, 100, 101, 102, 103, 104, 105, 106, 107, 108, 109] (by decide +kernel) (by decide +kernel)
set_option maxRecDepth 20000 in
theorem gX2_whose_X1_putTo : GoodIn wsX2_whose (wsV RX2 180 RX1 yX1_putTo wsX1_putTo) := goodIn_app (goodIn_of _ (by decide +kernel)) ggX2_whose_X1_putTo
set_option maxRecDepth 20000 in
theorem ggX2_whose_X1_heldBits : GoodIn wsX2_whose wsX1_heldBits := goodIn_r _ [52, 53, 54, 55, 8, 56, 22, 10, 36, 24, 37, 57, 58, 59, 60, 35, 48, 6, 7, 9, 93, 94, 95, 96, 97, 98, 99, 100, 101, 102, 103, 104, 105, 106, 107, 108, 109] (by decide +kernel) (by decide +kernel)
set_option maxRecDepth 20000 in
theorem gX2_whose_X1_heldBits : GoodIn wsX2_whose (wsV RX2 99 RX1 yX1_heldBits wsX1_heldBits) := goodIn_app (goodIn_of _ (by decide +kernel)) ggX2_whose_X1_heldBits
set_option maxRecDepth 20000 in
theorem ggX2_whose_X1_takenFrom : GoodIn wsX2_whose wsX1_takenFrom := goodIn_r _ [64, 26, 43, 12, 13, 8, 14, 15, 65, 66, 67, 68, 20, 69, 70, 71, 72, 73, 74, 75, 76, 21, 77, 78, 79, 80, 23, 10, 34, 48, 6, 7, 9, 93, 94, 95, 96, 97, 98, 99, 100, 101, 102, 103, 104, 105, 106, 107, 108, 109] (by decide +kernel) (by decide +kernel)
set_option maxRecDepth 20000 in
theorem gX2_whose_X1_takenFrom : GoodIn wsX2_whose (wsV RX2 183 RX1 yX1_takenFrom wsX1_takenFrom) := goodIn_app (goodIn_of _ (by decide +kernel)) ggX2_whose_X1_takenFrom
set_option maxRecDepth 20000 in
theorem ggX2_whose_X1_isAsTold : GoodIn wsX2_whose wsX1_isAsTold := goodIn_r _ [84, 10, 38, 48, 6, 7, 8, 9, 93, 94, 95, 96, 97, 98, 99, 100, 101, 102, 103, 104, 105, 106, 107, 108, 109] (by decide +kernel) (by decide +kernel)
set_option maxRecDepth 20000 in
theorem gX2_whose_X1_isAsTold : GoodIn wsX2_whose (wsV RX2 186 RX1 yX1_isAsTold wsX1_isAsTold) := goodIn_app (goodIn_of _ (by decide +kernel)) ggX2_whose_X1_isAsTold
theorem dX2_whose_0 : decode cX2_whose 0 = .ok (.aload_n 0, 1) := by decide +kernel
theorem dX2_whose_1 : decode cX2_whose 1 = .ok (.getfield 10, 3) := by decide +kernel
theorem dX2_whose_4 : decode cX2_whose 4 = .ok (.iload_n 1, 1) := by decide +kernel
theorem dX2_whose_5 : decode cX2_whose 5 = .ok (.invokevirtual 118, 3) := by decide +kernel
theorem dX2_whose_8 : decode cX2_whose 8 = .ok (.ifCond .eq 14, 3) := by decide +kernel
theorem dX2_whose_11 : decode cX2_whose 11 = .ok (.aload_n 0, 1) := by decide +kernel
theorem dX2_whose_12 : decode cX2_whose 12 = .ok (.getfield 10, 3) := by decide +kernel
theorem dX2_whose_15 : decode cX2_whose 15 = .ok (.iload_n 2, 1) := by decide +kernel
theorem dX2_whose_16 : decode cX2_whose 16 = .ok (.invokevirtual 79, 3) := by decide +kernel
theorem dX2_whose_19 : decode cX2_whose 19 = .ok (.ifCond .ne 6, 3) := by decide +kernel
theorem dX2_whose_22 : decode cX2_whose 22 = .ok (.bipush (-101), 2) := by decide +kernel
theorem dX2_whose_24 : decode cX2_whose 24 = .ok (.ireturn, 1) := by decide +kernel
theorem dX2_whose_25 : decode cX2_whose 25 = .ok (.aload_n 0, 1) := by decide +kernel
theorem dX2_whose_26 : decode cX2_whose 26 = .ok (.getfield 10, 3) := by decide +kernel
theorem dX2_whose_29 : decode cX2_whose 29 = .ok (.getfield 88, 3) := by decide +kernel
theorem dX2_whose_32 : decode cX2_whose 32 = .ok (.iload_n 2, 1) := by decide +kernel
theorem dX2_whose_33 : decode cX2_whose 33 = .ok (.baload, 1) := by decide +kernel
theorem dX2_whose_34 : decode cX2_whose 34 = .ok (.ifCond .ne 6, 3) := by decide +kernel
theorem dX2_whose_37 : decode cX2_whose 37 = .ok (.bipush (-103), 2) := by decide +kernel
theorem dX2_whose_39 : decode cX2_whose 39 = .ok (.ireturn, 1) := by decide +kernel
theorem dX2_whose_40 : decode cX2_whose 40 = .ok (.aload_n 0, 1) := by decide +kernel
theorem dX2_whose_41 : decode cX2_whose 41 = .ok (.getfield 19, 3) := by decide +kernel
theorem dX2_whose_44 : decode cX2_whose 44 = .ok (.aload_n 0, 1) := by decide +kernel
theorem dX2_whose_45 : decode cX2_whose 45 = .ok (.getfield 10, 3) := by decide +kernel
theorem dX2_whose_48 : decode cX2_whose 48 = .ok (.invokevirtual 170, 3) := by decide +kernel
theorem dX2_whose_51 : decode cX2_whose 51 = .ok (.iconst 0, 1) := by decide +kernel
theorem dX2_whose_52 : decode cX2_whose 52 = .ok (.istore_n 3, 1) := by decide +kernel
theorem dX2_whose_53 : decode cX2_whose 53 = .ok (.iconst 0, 1) := by decide +kernel
theorem dX2_whose_54 : decode cX2_whose 54 = .ok (.istore 4, 2) := by decide +kernel
theorem dX2_whose_56 : decode cX2_whose 56 = .ok (.iload 4, 2) := by decide +kernel
theorem dX2_whose_58 : decode cX2_whose 58 = .ok (.aload_n 0, 1) := by decide +kernel
theorem dX2_whose_59 : decode cX2_whose 59 = .ok (.getfield 19, 3) := by decide +kernel
theorem dX2_whose_62 : decode cX2_whose 62 = .ok (.getfield 174, 3) := by decide +kernel
theorem dX2_whose_65 : decode cX2_whose 65 = .ok (.if_icmp .ge 67, 3) := by decide +kernel
theorem dX2_whose_68 : decode cX2_whose 68 = .ok (.aload_n 0, 1) := by decide +kernel
theorem dX2_whose_69 : decode cX2_whose 69 = .ok (.getfield 19, 3) := by decide +kernel
theorem dX2_whose_72 : decode cX2_whose 72 = .ok (.iload 4, 2) := by decide +kernel
theorem dX2_whose_74 : decode cX2_whose 74 = .ok (.invokevirtual 177, 3) := by decide +kernel
theorem dX2_whose_77 : decode cX2_whose 77 = .ok (.ifCond .ne 6, 3) := by decide +kernel
theorem dX2_whose_80 : decode cX2_whose 80 = .ok (.goto 46, 3) := by decide +kernel
theorem dX2_whose_83 : decode cX2_whose 83 = .ok (.aload_n 0, 1) := by decide +kernel
theorem dX2_whose_84 : decode cX2_whose 84 = .ok (.getfield 19, 3) := by decide +kernel
theorem dX2_whose_87 : decode cX2_whose 87 = .ok (.iload_n 1, 1) := by decide +kernel
theorem dX2_whose_88 : decode cX2_whose 88 = .ok (.iload 4, 2) := by decide +kernel
theorem dX2_whose_90 : decode cX2_whose 90 = .ok (.invokevirtual 180, 3) := by decide +kernel
theorem dX2_whose_93 : decode cX2_whose 93 = .ok (.aload_n 0, 1) := by decide +kernel
theorem dX2_whose_94 : decode cX2_whose 94 = .ok (.getfield 19, 3) := by decide +kernel
theorem dX2_whose_97 : decode cX2_whose 97 = .ok (.aload_n 0, 1) := by decide +kernel
theorem dX2_whose_98 : decode cX2_whose 98 = .ok (.getfield 19, 3) := by decide +kernel
theorem dX2_whose_101 : decode cX2_whose 101 = .ok (.iload_n 2, 1) := by decide +kernel
theorem dX2_whose_102 : decode cX2_whose 102 = .ok (.aload_n 0, 1) := by decide +kernel
theorem dX2_whose_103 : decode cX2_whose 103 = .ok (.getfield 19, 3) := by decide +kernel
theorem dX2_whose_106 : decode cX2_whose 106 = .ok (.iload_n 2, 1) := by decide +kernel
theorem dX2_whose_107 : decode cX2_whose 107 = .ok (.invokevirtual 99, 3) := by decide +kernel
theorem dX2_whose_110 : decode cX2_whose 110 = .ok (.invokevirtual 183, 3) := by decide +kernel
theorem dX2_whose_113 : decode cX2_whose 113 = .ok (.invokevirtual 186, 3) := by decide +kernel
theorem dX2_whose_116 : decode cX2_whose 116 = .ok (.ifCond .eq 10, 3) := by decide +kernel
theorem dX2_whose_119 : decode cX2_whose 119 = .ok (.iload_n 3, 1) := by decide +kernel
theorem dX2_whose_120 : decode cX2_whose 120 = .ok (.iconst 1, 1) := by decide +kernel
theorem dX2_whose_121 : decode cX2_whose 121 = .ok (.iload 4, 2) := by decide +kernel
theorem dX2_whose_123 : decode cX2_whose 123 = .ok (.ishl, 1) := by decide +kernel
theorem dX2_whose_124 : decode cX2_whose 124 = .ok (.ior, 1) := by decide +kernel
theorem dX2_whose_125 : decode cX2_whose 125 = .ok (.istore_n 3, 1) := by decide +kernel
theorem dX2_whose_126 : decode cX2_whose 126 = .ok (.iinc 4 1, 3) := by decide +kernel
theorem dX2_whose_129 : decode cX2_whose 129 = .ok (.goto (-73), 3) := by decide +kernel
theorem dX2_whose_132 : decode cX2_whose 132 = .ok (.iload_n 3, 1) := by decide +kernel
theorem dX2_whose_133 : decode cX2_whose 133 = .ok (.ireturn, 1) := by decide +kernel
set_option maxRecDepth 20000 in
theorem ggX2_manors_X2_within : GoodIn wsX2_manors wsX2_within := goodIn_r _ [10] (by decide +kernel) (by decide +kernel)
set_option maxRecDepth 20000 in
theorem gX2_manors_X2_within : GoodIn wsX2_manors (va_wsS RX2 44 yX2_within wsX2_within) := goodIn_app (goodIn_of _ (by decide +kernel)) ggX2_manors_X2_within
set_option maxRecDepth 20000 in
theorem ggX2_manors_X1_copyFrom : GoodIn wsX2_manors wsX1_copyFrom := goodIn_r _ [15, 16, 17, 18, 19, 20, 21, 22, 23, 24, 25, 26, 27, 28, 29, 30, 31, 32, 33, 34, 35, 36, 127, 128, 129, 130, 131, 132, 133, 134, 135, 136, 137, 138, 139, 140, 141, 142, 143] (by decide +kernel) (by decide +kernel)
set_option maxRecDepth 20000 in
theorem gX2_manors_X1_copyFrom : GoodIn wsX2_manors (wsV RX2 170 RX1 yX1_copyFrom wsX1_copyFrom) := goodIn_app (goodIn_of _ (by decide +kernel)) ggX2_manors_X1_copyFrom
set_option maxRecDepth 20000 in
theorem ggX2_manors_X1_liveOneYear : GoodIn wsX2_manors wsX1_liveOneYear := goodIn_r _ [40, 20, 29, 21, 22, 41, 42, 43, 14, 44, 31, 45, 46, 47, 48, 49, 50, 51, 52, 53, 54, 55, 56, 57, 58, 59, 60, 61, 62, 30, 33, 23, 63, 64, 65, 66, 67, 68, 69, 70, 18, 34, 35, 71, 72, 73, 74, 75, 76, 77, 78, 79, 80, 81, 82, 24, 83, 84, 85, 86, 16, 87, 88, 89, 90, 91, 92, 93, 94, 17, 95, 96, 97, 98, 19, 32, 99, 100, 101, 102, 103, 104, 105, 106, 107, 108, 109, 110, 111, 112, 113, 114, 127, 128, 129, 130, 131, 132, 133, 134, 135, 136, 137, 138, 139, 140, 141, 142, 143, 144] (by decide +kernel) (by decide +kernel)
set_option maxRecDepth 20000 in
theorem gX2_manors_X1_liveOneYear : GoodIn wsX2_manors (wsV RX2 192 RX1 yX1_liveOneYear wsX1_liveOneYear) := goodIn_app (goodIn_of _ (by decide +kernel)) ggX2_manors_X1_liveOneYear
set_option maxRecDepth 20000 in
theorem ggX2_manors_X1_countAlive : GoodIn wsX2_manors wsX1_countAlive := goodIn_r _ [118, 20, 41, 42, 43, 14, 44, 31, 45, 46, 47, 48, 127, 128, 129, 130, 131, 132, 133, 134, 135, 136, 137, 138, 139, 140, 141, 142, 143] (by decide +kernel) (by decide +kernel)
set_option maxRecDepth 20000 in
theorem gX2_manors_X1_countAlive : GoodIn wsX2_manors (wsV RX2 199 RX1 yX1_countAlive wsX1_countAlive) := goodIn_app (goodIn_of _ (by decide +kernel)) ggX2_manors_X1_countAlive
theorem dX2_manors_0 : decode cX2_manors 0 = .ok (.iload_n 1, 1) := by decide +kernel
theorem dX2_manors_1 : decode cX2_manors 1 = .ok (.iconst 1, 1) := by decide +kernel
theorem dX2_manors_2 : decode cX2_manors 2 = .ok (.bipush 60, 2) := by decide +kernel
theorem dX2_manors_4 : decode cX2_manors 4 = .ok (.invokestatic 44, 3) := by decide +kernel
theorem dX2_manors_7 : decode cX2_manors 7 = .ok (.ifCond .eq 16, 3) := by decide +kernel
theorem dX2_manors_10 : decode cX2_manors 10 = .ok (.iload_n 2, 1) := by decide +kernel
theorem dX2_manors_11 : decode cX2_manors 11 = .ok (.ifCond .lt 12, 3) := by decide +kernel
theorem dX2_manors_14 : decode cX2_manors 14 = .ok (.iload_n 3, 1) := by decide +kernel
theorem dX2_manors_15 : decode cX2_manors 15 = .ok (.iconst 0, 1) := by decide +kernel
theorem dX2_manors_16 : decode cX2_manors 16 = .ok (.iconst 2, 1) := by decide +kernel
theorem dX2_manors_17 : decode cX2_manors 17 = .ok (.invokestatic 44, 3) := by decide +kernel
theorem dX2_manors_20 : decode cX2_manors 20 = .ok (.ifCond .ne 6, 3) := by decide +kernel
theorem dX2_manors_23 : decode cX2_manors 23 = .ok (.bipush (-102), 2) := by decide +kernel
theorem dX2_manors_25 : decode cX2_manors 25 = .ok (.ireturn, 1) := by decide +kernel
theorem dX2_manors_26 : decode cX2_manors 26 = .ok (.aload_n 0, 1) := by decide +kernel
theorem dX2_manors_27 : decode cX2_manors 27 = .ok (.getfield 10, 3) := by decide +kernel
theorem dX2_manors_30 : decode cX2_manors 30 = .ok (.getfield 174, 3) := by decide +kernel
theorem dX2_manors_33 : decode cX2_manors 33 = .ok (.ifCond .ne 6, 3) := by decide +kernel
theorem dX2_manors_36 : decode cX2_manors 36 = .ok (.bipush (-103), 2) := by decide +kernel
theorem dX2_manors_38 : decode cX2_manors 38 = .ok (.ireturn, 1) := by decide +kernel
theorem dX2_manors_39 : decode cX2_manors 39 = .ok (.aload_n 0, 1) := by decide +kernel
theorem dX2_manors_40 : decode cX2_manors 40 = .ok (.getfield 19, 3) := by decide +kernel
theorem dX2_manors_43 : decode cX2_manors 43 = .ok (.aload_n 0, 1) := by decide +kernel
theorem dX2_manors_44 : decode cX2_manors 44 = .ok (.getfield 10, 3) := by decide +kernel
theorem dX2_manors_47 : decode cX2_manors 47 = .ok (.invokevirtual 170, 3) := by decide +kernel
theorem dX2_manors_50 : decode cX2_manors 50 = .ok (.aload_n 0, 1) := by decide +kernel
theorem dX2_manors_51 : decode cX2_manors 51 = .ok (.getfield 25, 3) := by decide +kernel
theorem dX2_manors_54 : decode cX2_manors 54 = .ok (.iload_n 2, 1) := by decide +kernel
theorem dX2_manors_55 : decode cX2_manors 55 = .ok (.putfield 189, 3) := by decide +kernel
theorem dX2_manors_58 : decode cX2_manors 58 = .ok (.iconst 0, 1) := by decide +kernel
theorem dX2_manors_59 : decode cX2_manors 59 = .ok (.istore 4, 2) := by decide +kernel
theorem dX2_manors_61 : decode cX2_manors 61 = .ok (.iload 4, 2) := by decide +kernel
theorem dX2_manors_63 : decode cX2_manors 63 = .ok (.iload_n 1, 1) := by decide +kernel
theorem dX2_manors_64 : decode cX2_manors 64 = .ok (.if_icmp .ge 20, 3) := by decide +kernel
theorem dX2_manors_67 : decode cX2_manors 67 = .ok (.aload_n 0, 1) := by decide +kernel
theorem dX2_manors_68 : decode cX2_manors 68 = .ok (.getfield 19, 3) := by decide +kernel
theorem dX2_manors_71 : decode cX2_manors 71 = .ok (.aload_n 0, 1) := by decide +kernel
theorem dX2_manors_72 : decode cX2_manors 72 = .ok (.getfield 25, 3) := by decide +kernel
theorem dX2_manors_75 : decode cX2_manors 75 = .ok (.invokevirtual 192, 3) := by decide +kernel
theorem dX2_manors_78 : decode cX2_manors 78 = .ok (.iinc 4 1, 3) := by decide +kernel
theorem dX2_manors_81 : decode cX2_manors 81 = .ok (.goto (-20), 3) := by decide +kernel
theorem dX2_manors_84 : decode cX2_manors 84 = .ok (.iload_n 3, 1) := by decide +kernel
theorem dX2_manors_85 : decode cX2_manors 85 = .ok (.lookupswitch 51 #[(0, 27), (1, 43)], 27) := by decide +kernel
theorem dX2_manors_112 : decode cX2_manors 112 = .ok (.aload_n 0, 1) := by decide +kernel
theorem dX2_manors_113 : decode cX2_manors 113 = .ok (.getfield 19, 3) := by decide +kernel
theorem dX2_manors_116 : decode cX2_manors 116 = .ok (.getfield 196, 3) := by decide +kernel
theorem dX2_manors_119 : decode cX2_manors 119 = .ok (.aload_n 0, 1) := by decide +kernel
theorem dX2_manors_120 : decode cX2_manors 120 = .ok (.getfield 10, 3) := by decide +kernel
theorem dX2_manors_123 : decode cX2_manors 123 = .ok (.getfield 196, 3) := by decide +kernel
theorem dX2_manors_126 : decode cX2_manors 126 = .ok (.isub, 1) := by decide +kernel
theorem dX2_manors_127 : decode cX2_manors 127 = .ok (.ireturn, 1) := by decide +kernel
theorem dX2_manors_128 : decode cX2_manors 128 = .ok (.aload_n 0, 1) := by decide +kernel
theorem dX2_manors_129 : decode cX2_manors 129 = .ok (.getfield 19, 3) := by decide +kernel
theorem dX2_manors_132 : decode cX2_manors 132 = .ok (.invokevirtual 199, 3) := by decide +kernel
theorem dX2_manors_135 : decode cX2_manors 135 = .ok (.ireturn, 1) := by decide +kernel
theorem dX2_manors_136 : decode cX2_manors 136 = .ok (.aload_n 0, 1) := by decide +kernel
theorem dX2_manors_137 : decode cX2_manors 137 = .ok (.getfield 25, 3) := by decide +kernel
theorem dX2_manors_140 : decode cX2_manors 140 = .ok (.getfield 189, 3) := by decide +kernel
theorem dX2_manors_143 : decode cX2_manors 143 = .ok (.ireturn, 1) := by decide +kernel
set_option maxRecDepth 20000 in
theorem ggX2_image_X1_copyFrom : GoodIn wsX2_image wsX1_copyFrom := goodIn_r _ [9, 10, 11, 12, 13, 14, 15, 16, 17, 18, 19, 20, 21, 22, 23, 24, 25, 26, 27, 28, 29, 30, 39, 40, 41, 42, 43, 44, 45, 46, 47, 48, 49, 50, 51, 52, 53, 54, 55] (by decide +kernel) (by decide +kernel)
set_option maxRecDepth 20000 in
theorem gX2_image_X1_copyFrom : GoodIn wsX2_image (wsV RX2 170 RX1 yX1_copyFrom wsX1_copyFrom) := goodIn_app (goodIn_of _ (by decide +kernel)) ggX2_image_X1_copyFrom
theorem dX2_image_0 : decode cX2_image 0 = .ok (.aload_n 0, 1) := by decide +kernel
theorem dX2_image_1 : decode cX2_image 1 = .ok (.getfield 16, 3) := by decide +kernel
theorem dX2_image_4 : decode cX2_image 4 = .ok (.aload_n 0, 1) := by decide +kernel
theorem dX2_image_5 : decode cX2_image 5 = .ok (.getfield 10, 3) := by decide +kernel
theorem dX2_image_8 : decode cX2_image 8 = .ok (.invokevirtual 170, 3) := by decide +kernel
theorem dX2_image_11 : decode cX2_image 11 = .ok (.aload_n 0, 1) := by decide +kernel
theorem dX2_image_12 : decode cX2_image 12 = .ok (.iconst 1, 1) := by decide +kernel
theorem dX2_image_13 : decode cX2_image 13 = .ok (.putfield 40, 3) := by decide +kernel
theorem dX2_image_16 : decode cX2_image 16 = .ok (.aload_n 0, 1) := by decide +kernel
theorem dX2_image_17 : decode cX2_image 17 = .ok (.getfield 10, 3) := by decide +kernel
theorem dX2_image_20 : decode cX2_image 20 = .ok (.getfield 146, 3) := by decide +kernel
theorem dX2_image_23 : decode cX2_image 23 = .ok (.ireturn, 1) := by decide +kernel
set_option maxRecDepth 20000 in
theorem ggX2_restore_X1_copyFrom : GoodIn wsX2_restore wsX1_copyFrom := goodIn_r _ [9, 10, 11, 12, 13, 14, 15, 16, 17, 18, 19, 20, 21, 22, 23, 24, 25, 26, 27, 28, 29, 30, 39, 40, 41, 42, 43, 44, 45, 46, 47, 48, 49, 50, 51, 52, 53, 54, 55] (by decide +kernel) (by decide +kernel)
set_option maxRecDepth 20000 in
theorem gX2_restore_X1_copyFrom : GoodIn wsX2_restore (wsV RX2 170 RX1 yX1_copyFrom wsX1_copyFrom) := goodIn_app (goodIn_of _ (by decide +kernel)) ggX2_restore_X1_copyFrom
theorem dX2_restore_0 : decode cX2_restore 0 = .ok (.aload_n 0, 1) := by decide +kernel
theorem dX2_restore_1 : decode cX2_restore 1 = .ok (.getfield 40, 3) := by decide +kernel
theorem dX2_restore_4 : decode cX2_restore 4 = .ok (.ifCond .ne 6, 3) := by decide +kernel
theorem dX2_restore_7 : decode cX2_restore 7 = .ok (.bipush (-103), 2) := by decide +kernel
theorem dX2_restore_9 : decode cX2_restore 9 = .ok (.ireturn, 1) := by decide +kernel
theorem dX2_restore_10 : decode cX2_restore 10 = .ok (.aload_n 0, 1) := by decide +kernel
theorem dX2_restore_11 : decode cX2_restore 11 = .ok (.getfield 10, 3) := by decide +kernel
theorem dX2_restore_14 : decode cX2_restore 14 = .ok (.aload_n 0, 1) := by decide +kernel
theorem dX2_restore_15 : decode cX2_restore 15 = .ok (.getfield 16, 3) := by decide +kernel
theorem dX2_restore_18 : decode cX2_restore 18 = .ok (.invokevirtual 170, 3) := by decide +kernel
theorem dX2_restore_21 : decode cX2_restore 21 = .ok (.aload_n 0, 1) := by decide +kernel
theorem dX2_restore_22 : decode cX2_restore 22 = .ok (.getfield 10, 3) := by decide +kernel
theorem dX2_restore_25 : decode cX2_restore 25 = .ok (.getfield 146, 3) := by decide +kernel
theorem dX2_restore_28 : decode cX2_restore 28 = .ok (.ireturn, 1) := by decide +kernel
set_option maxRecDepth 20000 in
theorem ggX2_count_X1_countAlive : GoodIn wsX2_count wsX1_countAlive := goodIn_r _ [16, 17, 18, 19, 20, 15, 21, 22, 23, 24, 25, 26, 45, 46, 47, 48, 49, 50, 51, 52, 53, 54, 55, 56, 57, 58, 59, 60, 61] (by decide +kernel) (by decide +kernel)
set_option maxRecDepth 20000 in
theorem gX2_count_X1_countAlive : GoodIn wsX2_count (wsV RX2 199 RX1 yX1_countAlive wsX1_countAlive) := goodIn_app (goodIn_of _ (by decide +kernel)) ggX2_count_X1_countAlive
set_option maxRecDepth 20000 in
theorem ggX2_count_X1_countNotGone : GoodIn wsX2_count wsX1_countNotGone := goodIn_r _ [30, 31, 32, 33, 34, 35, 15, 36, 45, 46, 47, 48, 49, 50, 51, 52, 53, 54, 55, 56, 57, 58, 59, 60, 61] (by decide +kernel) (by decide +kernel)
set_option maxRecDepth 20000 in
theorem gX2_count_X1_countNotGone : GoodIn wsX2_count (wsV RX2 205 RX1 yX1_countNotGone wsX1_countNotGone) := goodIn_app (goodIn_of _ (by decide +kernel)) ggX2_count_X1_countNotGone
theorem dX2_count_0 : decode cX2_count 0 = .ok (.iload_n 1, 1) := by decide +kernel
theorem dX2_count_1 : decode cX2_count 1 = .ok (.tableswitch 153 0 11 #[63, 71, 79, 87, 95, 103, 111, 119, 127, 135, 143, 148], 63) := by decide +kernel
theorem dX2_count_64 : decode cX2_count 64 = .ok (.aload_n 0, 1) := by decide +kernel
theorem dX2_count_65 : decode cX2_count 65 = .ok (.getfield 10, 3) := by decide +kernel
theorem dX2_count_68 : decode cX2_count 68 = .ok (.getfield 60, 3) := by decide +kernel
theorem dX2_count_71 : decode cX2_count 71 = .ok (.ireturn, 1) := by decide +kernel
theorem dX2_count_72 : decode cX2_count 72 = .ok (.aload_n 0, 1) := by decide +kernel
theorem dX2_count_73 : decode cX2_count 73 = .ok (.getfield 10, 3) := by decide +kernel
theorem dX2_count_76 : decode cX2_count 76 = .ok (.getfield 63, 3) := by decide +kernel
theorem dX2_count_79 : decode cX2_count 79 = .ok (.ireturn, 1) := by decide +kernel
theorem dX2_count_80 : decode cX2_count 80 = .ok (.aload_n 0, 1) := by decide +kernel
theorem dX2_count_81 : decode cX2_count 81 = .ok (.getfield 10, 3) := by decide +kernel
theorem dX2_count_84 : decode cX2_count 84 = .ok (.getfield 66, 3) := by decide +kernel
theorem dX2_count_87 : decode cX2_count 87 = .ok (.ireturn, 1) := by decide +kernel
theorem dX2_count_88 : decode cX2_count 88 = .ok (.aload_n 0, 1) := by decide +kernel
theorem dX2_count_89 : decode cX2_count 89 = .ok (.getfield 10, 3) := by decide +kernel
theorem dX2_count_92 : decode cX2_count 92 = .ok (.getfield 69, 3) := by decide +kernel
theorem dX2_count_95 : decode cX2_count 95 = .ok (.ireturn, 1) := by decide +kernel
theorem dX2_count_96 : decode cX2_count 96 = .ok (.aload_n 0, 1) := by decide +kernel
theorem dX2_count_97 : decode cX2_count 97 = .ok (.getfield 10, 3) := by decide +kernel
theorem dX2_count_100 : decode cX2_count 100 = .ok (.getfield 174, 3) := by decide +kernel
theorem dX2_count_103 : decode cX2_count 103 = .ok (.ireturn, 1) := by decide +kernel
theorem dX2_count_104 : decode cX2_count 104 = .ok (.aload_n 0, 1) := by decide +kernel
theorem dX2_count_105 : decode cX2_count 105 = .ok (.getfield 10, 3) := by decide +kernel
theorem dX2_count_108 : decode cX2_count 108 = .ok (.invokevirtual 199, 3) := by decide +kernel
theorem dX2_count_111 : decode cX2_count 111 = .ok (.ireturn, 1) := by decide +kernel
theorem dX2_count_112 : decode cX2_count 112 = .ok (.aload_n 0, 1) := by decide +kernel
theorem dX2_count_113 : decode cX2_count 113 = .ok (.getfield 10, 3) := by decide +kernel
theorem dX2_count_116 : decode cX2_count 116 = .ok (.getfield 202, 3) := by decide +kernel
theorem dX2_count_119 : decode cX2_count 119 = .ok (.ireturn, 1) := by decide +kernel
theorem dX2_count_120 : decode cX2_count 120 = .ok (.aload_n 0, 1) := by decide +kernel
theorem dX2_count_121 : decode cX2_count 121 = .ok (.getfield 10, 3) := by decide +kernel
theorem dX2_count_124 : decode cX2_count 124 = .ok (.invokevirtual 205, 3) := by decide +kernel
theorem dX2_count_127 : decode cX2_count 127 = .ok (.ireturn, 1) := by decide +kernel
theorem dX2_count_128 : decode cX2_count 128 = .ok (.aload_n 0, 1) := by decide +kernel
theorem dX2_count_129 : decode cX2_count 129 = .ok (.getfield 10, 3) := by decide +kernel
theorem dX2_count_132 : decode cX2_count 132 = .ok (.getfield 146, 3) := by decide +kernel
theorem dX2_count_135 : decode cX2_count 135 = .ok (.ireturn, 1) := by decide +kernel
theorem dX2_count_136 : decode cX2_count 136 = .ok (.aload_n 0, 1) := by decide +kernel
theorem dX2_count_137 : decode cX2_count 137 = .ok (.getfield 10, 3) := by decide +kernel
theorem dX2_count_140 : decode cX2_count 140 = .ok (.getfield 196, 3) := by decide +kernel
theorem dX2_count_143 : decode cX2_count 143 = .ok (.ireturn, 1) := by decide +kernel
theorem dX2_count_144 : decode cX2_count 144 = .ok (.aload_n 0, 1) := by decide +kernel
theorem dX2_count_145 : decode cX2_count 145 = .ok (.getfield 33, 3) := by decide +kernel
theorem dX2_count_148 : decode cX2_count 148 = .ok (.ireturn, 1) := by decide +kernel
theorem dX2_count_149 : decode cX2_count 149 = .ok (.aload_n 0, 1) := by decide +kernel
theorem dX2_count_150 : decode cX2_count 150 = .ok (.getfield 37, 3) := by decide +kernel
theorem dX2_count_153 : decode cX2_count 153 = .ok (.ireturn, 1) := by decide +kernel
theorem dX2_count_154 : decode cX2_count 154 = .ok (.bipush (-102), 2) := by decide +kernel
theorem dX2_count_156 : decode cX2_count 156 = .ok (.ireturn, 1) := by decide +kernel
set_option maxRecDepth 20000 in
theorem ggX2_digest_X2_about : GoodIn wsX2_digest wsX2_about := goodIn_r _ [12, 2, 13, 14, 15, 16, 17, 18, 19, 20, 21, 22, 23, 24, 25, 26, 27, 28, 29, 30, 31, 32, 33, 34, 35, 36, 37, 38, 39, 40, 41, 42, 43, 44, 45, 46, 47, 48, 49, 50, 51, 52, 53, 54, 55, 56, 57, 58, 59, 60, 61, 62, 63, 64, 65, 66, 67, 68, 69, 70, 71, 72, 73, 74, 75, 76, 77, 78, 79, 80, 81, 82, 83, 84, 85, 86, 87, 161, 162, 163, 164, 165, 166, 167, 168, 169, 170, 171, 172, 173, 174, 175, 176, 177, 178, 179, 180, 181, 182, 183, 184, 185] (by decide +kernel) (by decide +kernel)
set_option maxRecDepth 20000 in
theorem gX2_digest_X2_about : GoodIn wsX2_digest (wsV RX2 212 RX2 yX2_about wsX2_about) := goodIn_app (goodIn_of _ (by decide +kernel)) ggX2_digest_X2_about
set_option maxRecDepth 20000 in
theorem ggX2_digest_X1_isAlive : GoodIn wsX2_digest wsX1_isAlive := goodIn_r _ [67, 68, 69, 18, 19, 20, 21, 22, 169, 170, 171, 172, 173, 174, 175, 176, 177, 178, 179, 180, 181, 182, 183, 184, 185] (by decide +kernel) (by decide +kernel)
set_option maxRecDepth 20000 in
theorem gX2_digest_X1_isAlive : GoodIn wsX2_digest (wsV RX2 177 RX1 yX1_isAlive wsX1_isAlive) := goodIn_app (goodIn_of _ (by decide +kernel)) ggX2_digest_X1_isAlive
set_option maxRecDepth 20000 in
theorem ggX2_digest_X2_safe : GoodIn wsX2_digest wsX2_safe := goodIn_r _ [92, 2, 15, 17, 18, 19, 20, 21, 22, 93, 94, 11, 95, 96, 97, 98, 99, 45, 24, 25, 26, 27, 28, 29, 30, 31, 32, 70, 34, 35, 36, 37, 38, 39, 40, 41, 42, 43, 44, 71, 72, 73, 74, 75, 69, 76, 47, 48, 49, 50, 51, 52, 53, 54, 77, 56, 57, 58, 59, 78, 79, 80, 81, 82, 83, 100, 101, 102, 103, 104, 105, 106, 107, 161, 162, 163, 164, 165, 166, 167, 168, 169, 170, 171, 172, 173, 174, 175, 176, 177, 178, 179, 180, 181, 182, 183, 184, 185] (by decide +kernel) (by decide +kernel)
set_option maxRecDepth 20000 in
theorem gX2_digest_X2_safe : GoodIn wsX2_digest (wsV RX2 215 RX2 yX2_safe wsX2_safe) := goodIn_app (goodIn_of _ (by decide +kernel)) ggX2_digest_X2_safe
set_option maxRecDepth 20000 in
theorem ggX2_digest_X2_giving : GoodIn wsX2_digest wsX2_giving := goodIn_r _ [111, 2, 15, 17, 18, 19, 20, 21, 22, 93, 94, 11, 95, 112, 113, 114, 115, 45, 24, 25, 26, 27, 28, 29, 30, 31, 32, 116, 117, 118, 119, 120, 69, 37, 38, 39, 40, 41, 42, 43, 44, 71, 72, 73, 74, 75, 76, 47, 48, 49, 50, 51, 52, 53, 54, 77, 56, 57, 58, 59, 78, 79, 80, 81, 82, 83, 84, 85, 86, 87, 100, 101, 102, 103, 104, 105, 106, 161, 162, 163, 164, 165, 166, 167, 168, 169, 170, 171, 172, 173, 174, 175, 176, 177, 178, 179, 180, 181, 182, 183, 184, 185] (by decide +kernel) (by decide +kernel)
set_option maxRecDepth 20000 in
theorem gX2_digest_X2_giving : GoodIn wsX2_digest (wsV RX2 218 RX2 yX2_giving wsX2_giving) := goodIn_app (goodIn_of _ (by decide +kernel)) ggX2_digest_X2_giving
set_option maxRecDepth 20000 in
theorem ggX2_digest_X2_mean : GoodIn wsX2_digest wsX2_mean := goodIn_r _ [124, 2, 15, 17, 18, 19, 20, 21, 22, 93, 94, 11, 95, 112, 113, 114, 115, 45, 24, 25, 26, 27, 28, 29, 30, 31, 32, 116, 117, 118, 119, 120, 69, 37, 38, 39, 40, 41, 42, 43, 44, 71, 72, 73, 74, 75, 76, 47, 48, 49, 50, 51, 52, 53, 54, 77, 56, 57, 58, 59, 78, 79, 80, 81, 82, 83, 84, 85, 86, 87, 100, 101, 102, 103, 104, 105, 106, 125, 126, 127, 128, 129, 130, 131, 161, 162, 163, 164, 165, 166, 167, 168, 169, 170, 171, 172, 173, 174, 175, 176, 177, 178, 179, 180, 181, 182, 183, 184, 185] (by decide +kernel) (by decide +kernel)
set_option maxRecDepth 20000 in
theorem gX2_digest_X2_mean : GoodIn wsX2_digest (wsV RX2 221 RX2 yX2_mean wsX2_mean) := goodIn_app (goodIn_of _ (by decide +kernel)) ggX2_digest_X2_mean
set_option maxRecDepth 20000 in
theorem ggX2_digest_X2_beastOf : GoodIn wsX2_digest wsX2_beastOf := goodIn_r _ [135, 2, 136, 137, 138, 139, 140, 141, 30, 31, 20, 32, 27, 161, 162, 163, 164, 165, 166, 167, 168, 169, 170, 171, 172, 173, 174, 175, 176, 177, 178, 179, 180, 181, 182, 183, 184, 185] (by decide +kernel) (by decide +kernel)
set_option maxRecDepth 20000 in
theorem gX2_digest_X2_beastOf : GoodIn wsX2_digest (wsV RX2 224 RX2 yX2_beastOf wsX2_beastOf) := goodIn_app (goodIn_of _ (by decide +kernel)) ggX2_digest_X2_beastOf
set_option maxRecDepth 20000 in
theorem ggX2_digest_X2_count : GoodIn wsX2_digest wsX2_count := goodIn_r _ [145, 2, 146, 147, 148, 149, 3, 5, 150, 151, 6, 152, 153, 154, 155, 20, 156, 22, 64, 65, 66, 67, 68, 69, 18, 19, 21, 157, 158, 159, 160, 27, 28, 29, 30, 31, 32, 161, 162, 163, 164, 165, 166, 167, 168, 169, 170, 171, 172, 173, 174, 175, 176, 177, 178, 179, 180, 181, 182, 183, 184, 185] (by decide +kernel) (by decide +kernel)
set_option maxRecDepth 20000 in
theorem gX2_digest_X2_count : GoodIn wsX2_digest (wsV RX2 227 RX2 yX2_count wsX2_count) := goodIn_app (goodIn_of _ (by decide +kernel)) ggX2_digest_X2_count
theorem dX2_digest_0 : decode cX2_digest 0 = .ok (.ldc2_w 208, 3) := by decide +kernel
theorem dX2_digest_3 : decode cX2_digest 3 = .ok (.lstore_n 1, 1) := by decide +kernel
theorem dX2_digest_4 : decode cX2_digest 4 = .ok (.iconst 0, 1) := by decide +kernel
theorem dX2_digest_5 : decode cX2_digest 5 = .ok (.istore_n 3, 1) := by decide +kernel
theorem dX2_digest_6 : decode cX2_digest 6 = .ok (.iload_n 3, 1) := by decide +kernel
theorem dX2_digest_7 : decode cX2_digest 7 = .ok (.aload_n 0, 1) := by decide +kernel
theorem dX2_digest_8 : decode cX2_digest 8 = .ok (.getfield 10, 3) := by decide +kernel
theorem dX2_digest_11 : decode cX2_digest 11 = .ok (.getfield 174, 3) := by decide +kernel
theorem dX2_digest_14 : decode cX2_digest 14 = .ok (.if_icmp .ge 123, 3) := by decide +kernel
theorem dX2_digest_17 : decode cX2_digest 17 = .ok (.iconst 0, 1) := by decide +kernel
theorem dX2_digest_18 : decode cX2_digest 18 = .ok (.istore 4, 2) := by decide +kernel
theorem dX2_digest_20 : decode cX2_digest 20 = .ok (.iload 4, 2) := by decide +kernel
theorem dX2_digest_22 : decode cX2_digest 22 = .ok (.bipush 8, 2) := by decide +kernel
theorem dX2_digest_24 : decode cX2_digest 24 = .ok (.if_icmp .gt 24, 3) := by decide +kernel
theorem dX2_digest_27 : decode cX2_digest 27 = .ok (.ldc2_w 210, 3) := by decide +kernel
theorem dX2_digest_30 : decode cX2_digest 30 = .ok (.lload_n 1, 1) := by decide +kernel
theorem dX2_digest_31 : decode cX2_digest 31 = .ok (.lmul, 1) := by decide +kernel
theorem dX2_digest_32 : decode cX2_digest 32 = .ok (.aload_n 0, 1) := by decide +kernel
theorem dX2_digest_33 : decode cX2_digest 33 = .ok (.iload_n 3, 1) := by decide +kernel
theorem dX2_digest_34 : decode cX2_digest 34 = .ok (.iload 4, 2) := by decide +kernel
theorem dX2_digest_36 : decode cX2_digest 36 = .ok (.invokevirtual 212, 3) := by decide +kernel
theorem dX2_digest_39 : decode cX2_digest 39 = .ok (.i2l, 1) := by decide +kernel
theorem dX2_digest_40 : decode cX2_digest 40 = .ok (.ladd, 1) := by decide +kernel
theorem dX2_digest_41 : decode cX2_digest 41 = .ok (.lstore_n 1, 1) := by decide +kernel
theorem dX2_digest_42 : decode cX2_digest 42 = .ok (.iinc 4 1, 3) := by decide +kernel
theorem dX2_digest_45 : decode cX2_digest 45 = .ok (.goto (-25), 3) := by decide +kernel
theorem dX2_digest_48 : decode cX2_digest 48 = .ok (.aload_n 0, 1) := by decide +kernel
theorem dX2_digest_49 : decode cX2_digest 49 = .ok (.getfield 10, 3) := by decide +kernel
theorem dX2_digest_52 : decode cX2_digest 52 = .ok (.iload_n 3, 1) := by decide +kernel
theorem dX2_digest_53 : decode cX2_digest 53 = .ok (.invokevirtual 177, 3) := by decide +kernel
theorem dX2_digest_56 : decode cX2_digest 56 = .ok (.ifCond .eq 75, 3) := by decide +kernel
theorem dX2_digest_59 : decode cX2_digest 59 = .ok (.ldc2_w 210, 3) := by decide +kernel
theorem dX2_digest_62 : decode cX2_digest 62 = .ok (.lload_n 1, 1) := by decide +kernel
theorem dX2_digest_63 : decode cX2_digest 63 = .ok (.lmul, 1) := by decide +kernel
theorem dX2_digest_64 : decode cX2_digest 64 = .ok (.aload_n 0, 1) := by decide +kernel
theorem dX2_digest_65 : decode cX2_digest 65 = .ok (.iload_n 3, 1) := by decide +kernel
theorem dX2_digest_66 : decode cX2_digest 66 = .ok (.iconst 0, 1) := by decide +kernel
theorem dX2_digest_67 : decode cX2_digest 67 = .ok (.invokevirtual 215, 3) := by decide +kernel
theorem dX2_digest_70 : decode cX2_digest 70 = .ok (.i2l, 1) := by decide +kernel
theorem dX2_digest_71 : decode cX2_digest 71 = .ok (.ladd, 1) := by decide +kernel
theorem dX2_digest_72 : decode cX2_digest 72 = .ok (.lstore_n 1, 1) := by decide +kernel
theorem dX2_digest_73 : decode cX2_digest 73 = .ok (.ldc2_w 210, 3) := by decide +kernel
theorem dX2_digest_76 : decode cX2_digest 76 = .ok (.lload_n 1, 1) := by decide +kernel
theorem dX2_digest_77 : decode cX2_digest 77 = .ok (.lmul, 1) := by decide +kernel
theorem dX2_digest_78 : decode cX2_digest 78 = .ok (.aload_n 0, 1) := by decide +kernel
theorem dX2_digest_79 : decode cX2_digest 79 = .ok (.iload_n 3, 1) := by decide +kernel
theorem dX2_digest_80 : decode cX2_digest 80 = .ok (.iconst 1, 1) := by decide +kernel
theorem dX2_digest_81 : decode cX2_digest 81 = .ok (.invokevirtual 215, 3) := by decide +kernel
theorem dX2_digest_84 : decode cX2_digest 84 = .ok (.i2l, 1) := by decide +kernel
theorem dX2_digest_85 : decode cX2_digest 85 = .ok (.ladd, 1) := by decide +kernel
theorem dX2_digest_86 : decode cX2_digest 86 = .ok (.lstore_n 1, 1) := by decide +kernel
theorem dX2_digest_87 : decode cX2_digest 87 = .ok (.ldc2_w 210, 3) := by decide +kernel
theorem dX2_digest_90 : decode cX2_digest 90 = .ok (.lload_n 1, 1) := by decide +kernel
theorem dX2_digest_91 : decode cX2_digest 91 = .ok (.lmul, 1) := by decide +kernel
theorem dX2_digest_92 : decode cX2_digest 92 = .ok (.aload_n 0, 1) := by decide +kernel
theorem dX2_digest_93 : decode cX2_digest 93 = .ok (.iload_n 3, 1) := by decide +kernel
theorem dX2_digest_94 : decode cX2_digest 94 = .ok (.iconst 2, 1) := by decide +kernel
theorem dX2_digest_95 : decode cX2_digest 95 = .ok (.invokevirtual 218, 3) := by decide +kernel
theorem dX2_digest_98 : decode cX2_digest 98 = .ok (.i2l, 1) := by decide +kernel
theorem dX2_digest_99 : decode cX2_digest 99 = .ok (.ladd, 1) := by decide +kernel
theorem dX2_digest_100 : decode cX2_digest 100 = .ok (.lstore_n 1, 1) := by decide +kernel
theorem dX2_digest_101 : decode cX2_digest 101 = .ok (.ldc2_w 210, 3) := by decide +kernel
theorem dX2_digest_104 : decode cX2_digest 104 = .ok (.lload_n 1, 1) := by decide +kernel
theorem dX2_digest_105 : decode cX2_digest 105 = .ok (.lmul, 1) := by decide +kernel
theorem dX2_digest_106 : decode cX2_digest 106 = .ok (.aload_n 0, 1) := by decide +kernel
theorem dX2_digest_107 : decode cX2_digest 107 = .ok (.iload_n 3, 1) := by decide +kernel
theorem dX2_digest_108 : decode cX2_digest 108 = .ok (.iconst 2, 1) := by decide +kernel
theorem dX2_digest_109 : decode cX2_digest 109 = .ok (.iconst 0, 1) := by decide +kernel
theorem dX2_digest_110 : decode cX2_digest 110 = .ok (.invokevirtual 221, 3) := by decide +kernel
theorem dX2_digest_113 : decode cX2_digest 113 = .ok (.i2l, 1) := by decide +kernel
theorem dX2_digest_114 : decode cX2_digest 114 = .ok (.ladd, 1) := by decide +kernel
theorem dX2_digest_115 : decode cX2_digest 115 = .ok (.lstore_n 1, 1) := by decide +kernel
theorem dX2_digest_116 : decode cX2_digest 116 = .ok (.ldc2_w 210, 3) := by decide +kernel
theorem dX2_digest_119 : decode cX2_digest 119 = .ok (.lload_n 1, 1) := by decide +kernel
theorem dX2_digest_120 : decode cX2_digest 120 = .ok (.lmul, 1) := by decide +kernel
theorem dX2_digest_121 : decode cX2_digest 121 = .ok (.aload_n 0, 1) := by decide +kernel
theorem dX2_digest_122 : decode cX2_digest 122 = .ok (.iload_n 3, 1) := by decide +kernel
theorem dX2_digest_123 : decode cX2_digest 123 = .ok (.iconst 2, 1) := by decide +kernel
theorem dX2_digest_124 : decode cX2_digest 124 = .ok (.iconst 1, 1) := by decide +kernel
theorem dX2_digest_125 : decode cX2_digest 125 = .ok (.invokevirtual 221, 3) := by decide +kernel
theorem dX2_digest_128 : decode cX2_digest 128 = .ok (.i2l, 1) := by decide +kernel
theorem dX2_digest_129 : decode cX2_digest 129 = .ok (.ladd, 1) := by decide +kernel
theorem dX2_digest_130 : decode cX2_digest 130 = .ok (.lstore_n 1, 1) := by decide +kernel
theorem dX2_digest_131 : decode cX2_digest 131 = .ok (.iinc 3 1, 3) := by decide +kernel
theorem dX2_digest_134 : decode cX2_digest 134 = .ok (.goto (-128), 3) := by decide +kernel
theorem dX2_digest_137 : decode cX2_digest 137 = .ok (.iconst 0, 1) := by decide +kernel
theorem dX2_digest_138 : decode cX2_digest 138 = .ok (.istore_n 3, 1) := by decide +kernel
theorem dX2_digest_139 : decode cX2_digest 139 = .ok (.iload_n 3, 1) := by decide +kernel
theorem dX2_digest_140 : decode cX2_digest 140 = .ok (.aload_n 0, 1) := by decide +kernel
theorem dX2_digest_141 : decode cX2_digest 141 = .ok (.getfield 10, 3) := by decide +kernel
theorem dX2_digest_144 : decode cX2_digest 144 = .ok (.getfield 202, 3) := by decide +kernel
theorem dX2_digest_147 : decode cX2_digest 147 = .ok (.if_icmp .ge 39, 3) := by decide +kernel
theorem dX2_digest_150 : decode cX2_digest 150 = .ok (.iconst 0, 1) := by decide +kernel
theorem dX2_digest_151 : decode cX2_digest 151 = .ok (.istore 4, 2) := by decide +kernel
theorem dX2_digest_153 : decode cX2_digest 153 = .ok (.iload 4, 2) := by decide +kernel
theorem dX2_digest_155 : decode cX2_digest 155 = .ok (.iconst 4, 1) := by decide +kernel
theorem dX2_digest_156 : decode cX2_digest 156 = .ok (.if_icmp .gt 24, 3) := by decide +kernel
theorem dX2_digest_159 : decode cX2_digest 159 = .ok (.ldc2_w 210, 3) := by decide +kernel
theorem dX2_digest_162 : decode cX2_digest 162 = .ok (.lload_n 1, 1) := by decide +kernel
theorem dX2_digest_163 : decode cX2_digest 163 = .ok (.lmul, 1) := by decide +kernel
theorem dX2_digest_164 : decode cX2_digest 164 = .ok (.aload_n 0, 1) := by decide +kernel
theorem dX2_digest_165 : decode cX2_digest 165 = .ok (.iload_n 3, 1) := by decide +kernel
theorem dX2_digest_166 : decode cX2_digest 166 = .ok (.iload 4, 2) := by decide +kernel
theorem dX2_digest_168 : decode cX2_digest 168 = .ok (.invokevirtual 224, 3) := by decide +kernel
theorem dX2_digest_171 : decode cX2_digest 171 = .ok (.i2l, 1) := by decide +kernel
theorem dX2_digest_172 : decode cX2_digest 172 = .ok (.ladd, 1) := by decide +kernel
theorem dX2_digest_173 : decode cX2_digest 173 = .ok (.lstore_n 1, 1) := by decide +kernel
theorem dX2_digest_174 : decode cX2_digest 174 = .ok (.iinc 4 1, 3) := by decide +kernel
theorem dX2_digest_177 : decode cX2_digest 177 = .ok (.goto (-24), 3) := by decide +kernel
theorem dX2_digest_180 : decode cX2_digest 180 = .ok (.iinc 3 1, 3) := by decide +kernel
theorem dX2_digest_183 : decode cX2_digest 183 = .ok (.goto (-44), 3) := by decide +kernel
theorem dX2_digest_186 : decode cX2_digest 186 = .ok (.iconst 0, 1) := by decide +kernel
theorem dX2_digest_187 : decode cX2_digest 187 = .ok (.istore_n 3, 1) := by decide +kernel
theorem dX2_digest_188 : decode cX2_digest 188 = .ok (.iload_n 3, 1) := by decide +kernel
theorem dX2_digest_189 : decode cX2_digest 189 = .ok (.aload_n 0, 1) := by decide +kernel
theorem dX2_digest_190 : decode cX2_digest 190 = .ok (.getfield 33, 3) := by decide +kernel
theorem dX2_digest_193 : decode cX2_digest 193 = .ok (.if_icmp .ge 32, 3) := by decide +kernel
theorem dX2_digest_196 : decode cX2_digest 196 = .ok (.iload_n 3, 1) := by decide +kernel
theorem dX2_digest_197 : decode cX2_digest 197 = .ok (.aload_n 0, 1) := by decide +kernel
theorem dX2_digest_198 : decode cX2_digest 198 = .ok (.getfield 29, 3) := by decide +kernel
theorem dX2_digest_201 : decode cX2_digest 201 = .ok (.arraylength, 1) := by decide +kernel
theorem dX2_digest_202 : decode cX2_digest 202 = .ok (.if_icmp .ge 23, 3) := by decide +kernel
theorem dX2_digest_205 : decode cX2_digest 205 = .ok (.ldc2_w 210, 3) := by decide +kernel
theorem dX2_digest_208 : decode cX2_digest 208 = .ok (.lload_n 1, 1) := by decide +kernel
theorem dX2_digest_209 : decode cX2_digest 209 = .ok (.lmul, 1) := by decide +kernel
theorem dX2_digest_210 : decode cX2_digest 210 = .ok (.aload_n 0, 1) := by decide +kernel
theorem dX2_digest_211 : decode cX2_digest 211 = .ok (.getfield 29, 3) := by decide +kernel
theorem dX2_digest_214 : decode cX2_digest 214 = .ok (.iload_n 3, 1) := by decide +kernel
theorem dX2_digest_215 : decode cX2_digest 215 = .ok (.iaload, 1) := by decide +kernel
theorem dX2_digest_216 : decode cX2_digest 216 = .ok (.i2l, 1) := by decide +kernel
theorem dX2_digest_217 : decode cX2_digest 217 = .ok (.ladd, 1) := by decide +kernel
theorem dX2_digest_218 : decode cX2_digest 218 = .ok (.lstore_n 1, 1) := by decide +kernel
theorem dX2_digest_219 : decode cX2_digest 219 = .ok (.iinc 3 1, 3) := by decide +kernel
theorem dX2_digest_222 : decode cX2_digest 222 = .ok (.goto (-34), 3) := by decide +kernel
theorem dX2_digest_225 : decode cX2_digest 225 = .ok (.iconst 0, 1) := by decide +kernel
theorem dX2_digest_226 : decode cX2_digest 226 = .ok (.istore_n 3, 1) := by decide +kernel
theorem dX2_digest_227 : decode cX2_digest 227 = .ok (.iload_n 3, 1) := by decide +kernel
theorem dX2_digest_228 : decode cX2_digest 228 = .ok (.bipush 11, 2) := by decide +kernel
theorem dX2_digest_230 : decode cX2_digest 230 = .ok (.if_icmp .gt 22, 3) := by decide +kernel
theorem dX2_digest_233 : decode cX2_digest 233 = .ok (.ldc2_w 210, 3) := by decide +kernel
theorem dX2_digest_236 : decode cX2_digest 236 = .ok (.lload_n 1, 1) := by decide +kernel
theorem dX2_digest_237 : decode cX2_digest 237 = .ok (.lmul, 1) := by decide +kernel
theorem dX2_digest_238 : decode cX2_digest 238 = .ok (.aload_n 0, 1) := by decide +kernel
theorem dX2_digest_239 : decode cX2_digest 239 = .ok (.iload_n 3, 1) := by decide +kernel
theorem dX2_digest_240 : decode cX2_digest 240 = .ok (.invokevirtual 227, 3) := by decide +kernel
theorem dX2_digest_243 : decode cX2_digest 243 = .ok (.i2l, 1) := by decide +kernel
theorem dX2_digest_244 : decode cX2_digest 244 = .ok (.ladd, 1) := by decide +kernel
theorem dX2_digest_245 : decode cX2_digest 245 = .ok (.lstore_n 1, 1) := by decide +kernel
theorem dX2_digest_246 : decode cX2_digest 246 = .ok (.iinc 3 1, 3) := by decide +kernel
theorem dX2_digest_249 : decode cX2_digest 249 = .ok (.goto (-22), 3) := by decide +kernel
theorem dX2_digest_252 : decode cX2_digest 252 = .ok (.lload_n 1, 1) := by decide +kernel
theorem dX2_digest_253 : decode cX2_digest 253 = .ok (.lreturn, 1) := by decide +kernel
theorem dX2_within_0 : decode cX2_within 0 = .ok (.iload_n 0, 1) := by decide +kernel
theorem dX2_within_1 : decode cX2_within 1 = .ok (.iload_n 1, 1) := by decide +kernel
theorem dX2_within_2 : decode cX2_within 2 = .ok (.if_icmp .lt 12, 3) := by decide +kernel
theorem dX2_within_5 : decode cX2_within 5 = .ok (.iload_n 0, 1) := by decide +kernel
theorem dX2_within_6 : decode cX2_within 6 = .ok (.iload_n 2, 1) := by decide +kernel
theorem dX2_within_7 : decode cX2_within 7 = .ok (.if_icmp .gt 7, 3) := by decide +kernel
theorem dX2_within_10 : decode cX2_within 10 = .ok (.iconst 1, 1) := by decide +kernel
theorem dX2_within_11 : decode cX2_within 11 = .ok (.goto 4, 3) := by decide +kernel
theorem dX2_within_14 : decode cX2_within 14 = .ok (.iconst 0, 1) := by decide +kernel
theorem dX2_within_15 : decode cX2_within 15 = .ok (.ireturn, 1) := by decide +kernel
theorem dJ6_bitCount_0f7a4_0 : decode cJ6_bitCount_0f7a4 0 = .ok (.iload_n 0, 1) := by decide +kernel
theorem dJ6_bitCount_0f7a4_1 : decode cJ6_bitCount_0f7a4 1 = .ok (.iload_n 0, 1) := by decide +kernel
theorem dJ6_bitCount_0f7a4_2 : decode cJ6_bitCount_0f7a4 2 = .ok (.iconst 1, 1) := by decide +kernel
theorem dJ6_bitCount_0f7a4_3 : decode cJ6_bitCount_0f7a4 3 = .ok (.iushr, 1) := by decide +kernel
theorem dJ6_bitCount_0f7a4_4 : decode cJ6_bitCount_0f7a4 4 = .ok (.ldc_w 265, 3) := by decide +kernel
theorem dJ6_bitCount_0f7a4_7 : decode cJ6_bitCount_0f7a4 7 = .ok (.iand, 1) := by decide +kernel
theorem dJ6_bitCount_0f7a4_8 : decode cJ6_bitCount_0f7a4 8 = .ok (.isub, 1) := by decide +kernel
theorem dJ6_bitCount_0f7a4_9 : decode cJ6_bitCount_0f7a4 9 = .ok (.istore_n 0, 1) := by decide +kernel
theorem dJ6_bitCount_0f7a4_10 : decode cJ6_bitCount_0f7a4 10 = .ok (.iload_n 0, 1) := by decide +kernel
theorem dJ6_bitCount_0f7a4_11 : decode cJ6_bitCount_0f7a4 11 = .ok (.ldc_w 266, 3) := by decide +kernel
theorem dJ6_bitCount_0f7a4_14 : decode cJ6_bitCount_0f7a4 14 = .ok (.iand, 1) := by decide +kernel
theorem dJ6_bitCount_0f7a4_15 : decode cJ6_bitCount_0f7a4 15 = .ok (.iload_n 0, 1) := by decide +kernel
theorem dJ6_bitCount_0f7a4_16 : decode cJ6_bitCount_0f7a4 16 = .ok (.iconst 2, 1) := by decide +kernel
theorem dJ6_bitCount_0f7a4_17 : decode cJ6_bitCount_0f7a4 17 = .ok (.iushr, 1) := by decide +kernel
theorem dJ6_bitCount_0f7a4_18 : decode cJ6_bitCount_0f7a4 18 = .ok (.ldc_w 266, 3) := by decide +kernel
theorem dJ6_bitCount_0f7a4_21 : decode cJ6_bitCount_0f7a4 21 = .ok (.iand, 1) := by decide +kernel
theorem dJ6_bitCount_0f7a4_22 : decode cJ6_bitCount_0f7a4 22 = .ok (.iadd, 1) := by decide +kernel
theorem dJ6_bitCount_0f7a4_23 : decode cJ6_bitCount_0f7a4 23 = .ok (.istore_n 0, 1) := by decide +kernel
theorem dJ6_bitCount_0f7a4_24 : decode cJ6_bitCount_0f7a4 24 = .ok (.iload_n 0, 1) := by decide +kernel
theorem dJ6_bitCount_0f7a4_25 : decode cJ6_bitCount_0f7a4 25 = .ok (.iload_n 0, 1) := by decide +kernel
theorem dJ6_bitCount_0f7a4_26 : decode cJ6_bitCount_0f7a4 26 = .ok (.iconst 4, 1) := by decide +kernel
theorem dJ6_bitCount_0f7a4_27 : decode cJ6_bitCount_0f7a4 27 = .ok (.iushr, 1) := by decide +kernel
theorem dJ6_bitCount_0f7a4_28 : decode cJ6_bitCount_0f7a4 28 = .ok (.iadd, 1) := by decide +kernel
theorem dJ6_bitCount_0f7a4_29 : decode cJ6_bitCount_0f7a4 29 = .ok (.ldc_w 267, 3) := by decide +kernel
theorem dJ6_bitCount_0f7a4_32 : decode cJ6_bitCount_0f7a4 32 = .ok (.iand, 1) := by decide +kernel
theorem dJ6_bitCount_0f7a4_33 : decode cJ6_bitCount_0f7a4 33 = .ok (.istore_n 0, 1) := by decide +kernel
theorem dJ6_bitCount_0f7a4_34 : decode cJ6_bitCount_0f7a4 34 = .ok (.iload_n 0, 1) := by decide +kernel
theorem dJ6_bitCount_0f7a4_35 : decode cJ6_bitCount_0f7a4 35 = .ok (.iload_n 0, 1) := by decide +kernel
theorem dJ6_bitCount_0f7a4_36 : decode cJ6_bitCount_0f7a4 36 = .ok (.bipush 8, 2) := by decide +kernel
theorem dJ6_bitCount_0f7a4_38 : decode cJ6_bitCount_0f7a4 38 = .ok (.iushr, 1) := by decide +kernel
theorem dJ6_bitCount_0f7a4_39 : decode cJ6_bitCount_0f7a4 39 = .ok (.iadd, 1) := by decide +kernel
theorem dJ6_bitCount_0f7a4_40 : decode cJ6_bitCount_0f7a4 40 = .ok (.istore_n 0, 1) := by decide +kernel
theorem dJ6_bitCount_0f7a4_41 : decode cJ6_bitCount_0f7a4 41 = .ok (.iload_n 0, 1) := by decide +kernel
theorem dJ6_bitCount_0f7a4_42 : decode cJ6_bitCount_0f7a4 42 = .ok (.iload_n 0, 1) := by decide +kernel
theorem dJ6_bitCount_0f7a4_43 : decode cJ6_bitCount_0f7a4 43 = .ok (.bipush 16, 2) := by decide +kernel
theorem dJ6_bitCount_0f7a4_45 : decode cJ6_bitCount_0f7a4 45 = .ok (.iushr, 1) := by decide +kernel
theorem dJ6_bitCount_0f7a4_46 : decode cJ6_bitCount_0f7a4 46 = .ok (.iadd, 1) := by decide +kernel
theorem dJ6_bitCount_0f7a4_47 : decode cJ6_bitCount_0f7a4 47 = .ok (.istore_n 0, 1) := by decide +kernel
theorem dJ6_bitCount_0f7a4_48 : decode cJ6_bitCount_0f7a4 48 = .ok (.iload_n 0, 1) := by decide +kernel
theorem dJ6_bitCount_0f7a4_49 : decode cJ6_bitCount_0f7a4 49 = .ok (.bipush 63, 2) := by decide +kernel
theorem dJ6_bitCount_0f7a4_51 : decode cJ6_bitCount_0f7a4 51 = .ok (.iand, 1) := by decide +kernel
theorem dJ6_bitCount_0f7a4_52 : decode cJ6_bitCount_0f7a4 52 = .ok (.ireturn, 1) := by decide +kernel
theorem dJ9_max_7cf53_0 : decode cJ9_max_7cf53 0 = .ok (.iload_n 0, 1) := by decide +kernel
theorem dJ9_max_7cf53_1 : decode cJ9_max_7cf53 1 = .ok (.iload_n 1, 1) := by decide +kernel
theorem dJ9_max_7cf53_2 : decode cJ9_max_7cf53 2 = .ok (.if_icmp .lt 7, 3) := by decide +kernel
theorem dJ9_max_7cf53_5 : decode cJ9_max_7cf53 5 = .ok (.iload_n 0, 1) := by decide +kernel
theorem dJ9_max_7cf53_6 : decode cJ9_max_7cf53 6 = .ok (.goto 4, 3) := by decide +kernel
theorem dJ9_max_7cf53_9 : decode cJ9_max_7cf53 9 = .ok (.iload_n 1, 1) := by decide +kernel
theorem dJ9_max_7cf53_10 : decode cJ9_max_7cf53 10 = .ok (.ireturn, 1) := by decide +kernel
