theorem dX0_init_0 : decode cX0_init 0 = .ok (.aload_n 0, 1) := by decide +kernel
theorem dX0_init_1 : decode cX0_init 1 = .ok (.invokespecial 1, 3) := by decide +kernel
theorem dX0_init_4 : decode cX0_init 4 = .ok (.aload_n 0, 1) := by decide +kernel
theorem dX0_init_5 : decode cX0_init 5 = .ok (.iconst 0, 1) := by decide +kernel
theorem dX0_init_6 : decode cX0_init 6 = .ok (.putfield 7, 3) := by decide +kernel
theorem dX0_init_9 : decode cX0_init 9 = .ok (.return_, 1) := by decide +kernel
theorem dX0_drawOf_0 : decode cX0_drawOf 0 = .ok (.aload_n 0, 1) := by decide +kernel
theorem dX0_drawOf_1 : decode cX0_drawOf 1 = .ok (.ldc2_w 13, 3) := by decide +kernel
theorem dX0_drawOf_4 : decode cX0_drawOf 4 = .ok (.aload_n 0, 1) := by decide +kernel
theorem dX0_drawOf_5 : decode cX0_drawOf 5 = .ok (.getfield 7, 3) := by decide +kernel
theorem dX0_drawOf_8 : decode cX0_drawOf 8 = .ok (.i2l, 1) := by decide +kernel
theorem dX0_drawOf_9 : decode cX0_drawOf 9 = .ok (.lmul, 1) := by decide +kernel
theorem dX0_drawOf_10 : decode cX0_drawOf 10 = .ok (.ldc2_w 15, 3) := by decide +kernel
theorem dX0_drawOf_13 : decode cX0_drawOf 13 = .ok (.ladd, 1) := by decide +kernel
theorem dX0_drawOf_14 : decode cX0_drawOf 14 = .ok (.ldc2_w 17, 3) := by decide +kernel
theorem dX0_drawOf_17 : decode cX0_drawOf 17 = .ok (.land, 1) := by decide +kernel
theorem dX0_drawOf_18 : decode cX0_drawOf 18 = .ok (.l2i, 1) := by decide +kernel
theorem dX0_drawOf_19 : decode cX0_drawOf 19 = .ok (.putfield 7, 3) := by decide +kernel
theorem dX0_drawOf_22 : decode cX0_drawOf 22 = .ok (.iload_n 1, 1) := by decide +kernel
theorem dX0_drawOf_23 : decode cX0_drawOf 23 = .ok (.ifCond .le 15, 3) := by decide +kernel
theorem dX0_drawOf_26 : decode cX0_drawOf 26 = .ok (.aload_n 0, 1) := by decide +kernel
theorem dX0_drawOf_27 : decode cX0_drawOf 27 = .ok (.getfield 7, 3) := by decide +kernel
theorem dX0_drawOf_30 : decode cX0_drawOf 30 = .ok (.ldc 19, 2) := by decide +kernel
theorem dX0_drawOf_32 : decode cX0_drawOf 32 = .ok (.idiv, 1) := by decide +kernel
theorem dX0_drawOf_33 : decode cX0_drawOf 33 = .ok (.iload_n 1, 1) := by decide +kernel
theorem dX0_drawOf_34 : decode cX0_drawOf 34 = .ok (.irem, 1) := by decide +kernel
theorem dX0_drawOf_35 : decode cX0_drawOf 35 = .ok (.goto 4, 3) := by decide +kernel
theorem dX0_drawOf_38 : decode cX0_drawOf 38 = .ok (.iconst 0, 1) := by decide +kernel
theorem dX0_drawOf_39 : decode cX0_drawOf 39 = .ok (.ireturn, 1) := by decide +kernel
theorem dX1_init_0 : decode cX1_init 0 = .ok (.aload_n 0, 1) := by decide +kernel
theorem dX1_init_1 : decode cX1_init 1 = .ok (.invokespecial 3, 3) := by decide +kernel
theorem dX1_init_4 : decode cX1_init 4 = .ok (.aload_n 0, 1) := by decide +kernel
theorem dX1_init_5 : decode cX1_init 5 = .ok (.iconst 1, 1) := by decide +kernel
theorem dX1_init_6 : decode cX1_init 6 = .ok (.putfield 9, 3) := by decide +kernel
theorem dX1_init_9 : decode cX1_init 9 = .ok (.aload_n 0, 1) := by decide +kernel
theorem dX1_init_10 : decode cX1_init 10 = .ok (.iconst 1, 1) := by decide +kernel
theorem dX1_init_11 : decode cX1_init 11 = .ok (.putfield 15, 3) := by decide +kernel
theorem dX1_init_14 : decode cX1_init 14 = .ok (.aload_n 0, 1) := by decide +kernel
theorem dX1_init_15 : decode cX1_init 15 = .ok (.iconst 1, 1) := by decide +kernel
theorem dX1_init_16 : decode cX1_init 16 = .ok (.putfield 18, 3) := by decide +kernel
theorem dX1_init_19 : decode cX1_init 19 = .ok (.aload_n 0, 1) := by decide +kernel
theorem dX1_init_20 : decode cX1_init 20 = .ok (.iconst 0, 1) := by decide +kernel
theorem dX1_init_21 : decode cX1_init 21 = .ok (.putfield 21, 3) := by decide +kernel
theorem dX1_init_24 : decode cX1_init 24 = .ok (.aload_n 0, 1) := by decide +kernel
theorem dX1_init_25 : decode cX1_init 25 = .ok (.iconst 0, 1) := by decide +kernel
theorem dX1_init_26 : decode cX1_init 26 = .ok (.putfield 24, 3) := by decide +kernel
theorem dX1_init_29 : decode cX1_init 29 = .ok (.aload_n 0, 1) := by decide +kernel
theorem dX1_init_30 : decode cX1_init 30 = .ok (.iconst 4, 1) := by decide +kernel
theorem dX1_init_31 : decode cX1_init 31 = .ok (.newarray .int, 2) := by decide +kernel
theorem dX1_init_33 : decode cX1_init 33 = .ok (.putfield 27, 3) := by decide +kernel
theorem dX1_init_36 : decode cX1_init 36 = .ok (.aload_n 0, 1) := by decide +kernel
theorem dX1_init_37 : decode cX1_init 37 = .ok (.iconst 4, 1) := by decide +kernel
theorem dX1_init_38 : decode cX1_init 38 = .ok (.newarray .int, 2) := by decide +kernel
theorem dX1_init_40 : decode cX1_init 40 = .ok (.putfield 31, 3) := by decide +kernel
theorem dX1_init_43 : decode cX1_init 43 = .ok (.aload_n 0, 1) := by decide +kernel
theorem dX1_init_44 : decode cX1_init 44 = .ok (.iconst 4, 1) := by decide +kernel
theorem dX1_init_45 : decode cX1_init 45 = .ok (.newarray .int, 2) := by decide +kernel
theorem dX1_init_47 : decode cX1_init 47 = .ok (.putfield 34, 3) := by decide +kernel
theorem dX1_init_50 : decode cX1_init 50 = .ok (.aload_n 0, 1) := by decide +kernel
theorem dX1_init_51 : decode cX1_init 51 = .ok (.iconst 4, 1) := by decide +kernel
theorem dX1_init_52 : decode cX1_init 52 = .ok (.newarray .boolean, 2) := by decide +kernel
theorem dX1_init_54 : decode cX1_init 54 = .ok (.putfield 37, 3) := by decide +kernel
theorem dX1_init_57 : decode cX1_init 57 = .ok (.aload_n 0, 1) := by decide +kernel
theorem dX1_init_58 : decode cX1_init 58 = .ok (.iconst 0, 1) := by decide +kernel
theorem dX1_init_59 : decode cX1_init 59 = .ok (.putfield 41, 3) := by decide +kernel
theorem dX1_init_62 : decode cX1_init 62 = .ok (.aload_n 0, 1) := by decide +kernel
theorem dX1_init_63 : decode cX1_init 63 = .ok (.bipush 6, 2) := by decide +kernel
theorem dX1_init_65 : decode cX1_init 65 = .ok (.newarray .int, 2) := by decide +kernel
theorem dX1_init_67 : decode cX1_init 67 = .ok (.putfield 44, 3) := by decide +kernel
theorem dX1_init_70 : decode cX1_init 70 = .ok (.aload_n 0, 1) := by decide +kernel
theorem dX1_init_71 : decode cX1_init 71 = .ok (.bipush 6, 2) := by decide +kernel
theorem dX1_init_73 : decode cX1_init 73 = .ok (.newarray .int, 2) := by decide +kernel
theorem dX1_init_75 : decode cX1_init 75 = .ok (.putfield 47, 3) := by decide +kernel
theorem dX1_init_78 : decode cX1_init 78 = .ok (.aload_n 0, 1) := by decide +kernel
theorem dX1_init_79 : decode cX1_init 79 = .ok (.bipush 6, 2) := by decide +kernel
theorem dX1_init_81 : decode cX1_init 81 = .ok (.newarray .int, 2) := by decide +kernel
theorem dX1_init_83 : decode cX1_init 83 = .ok (.putfield 50, 3) := by decide +kernel
theorem dX1_init_86 : decode cX1_init 86 = .ok (.aload_n 0, 1) := by decide +kernel
theorem dX1_init_87 : decode cX1_init 87 = .ok (.bipush 6, 2) := by decide +kernel
theorem dX1_init_89 : decode cX1_init 89 = .ok (.newarray .int, 2) := by decide +kernel
theorem dX1_init_91 : decode cX1_init 91 = .ok (.putfield 53, 3) := by decide +kernel
theorem dX1_init_94 : decode cX1_init 94 = .ok (.aload_n 0, 1) := by decide +kernel
theorem dX1_init_95 : decode cX1_init 95 = .ok (.bipush 6, 2) := by decide +kernel
theorem dX1_init_97 : decode cX1_init 97 = .ok (.newarray .int, 2) := by decide +kernel
theorem dX1_init_99 : decode cX1_init 99 = .ok (.putfield 56, 3) := by decide +kernel
theorem dX1_init_102 : decode cX1_init 102 = .ok (.aload_n 0, 1) := by decide +kernel
theorem dX1_init_103 : decode cX1_init 103 = .ok (.iconst 0, 1) := by decide +kernel
theorem dX1_init_104 : decode cX1_init 104 = .ok (.putfield 59, 3) := by decide +kernel
theorem dX1_init_107 : decode cX1_init 107 = .ok (.aload_n 0, 1) := by decide +kernel
theorem dX1_init_108 : decode cX1_init 108 = .ok (.iconst 0, 1) := by decide +kernel
theorem dX1_init_109 : decode cX1_init 109 = .ok (.putfield 62, 3) := by decide +kernel
theorem dX1_init_112 : decode cX1_init 112 = .ok (.return_, 1) := by decide +kernel
theorem dX1_copyFrom_0 : decode cX1_copyFrom 0 = .ok (.aload_n 1, 1) := by decide +kernel
theorem dX1_copyFrom_1 : decode cX1_copyFrom 1 = .ok (.ifnonnull 4, 3) := by decide +kernel
theorem dX1_copyFrom_4 : decode cX1_copyFrom 4 = .ok (.return_, 1) := by decide +kernel
theorem dX1_copyFrom_5 : decode cX1_copyFrom 5 = .ok (.aload_n 0, 1) := by decide +kernel
theorem dX1_copyFrom_6 : decode cX1_copyFrom 6 = .ok (.aload_n 1, 1) := by decide +kernel
theorem dX1_copyFrom_7 : decode cX1_copyFrom 7 = .ok (.getfield 9, 3) := by decide +kernel
theorem dX1_copyFrom_10 : decode cX1_copyFrom 10 = .ok (.putfield 9, 3) := by decide +kernel
theorem dX1_copyFrom_13 : decode cX1_copyFrom 13 = .ok (.aload_n 0, 1) := by decide +kernel
theorem dX1_copyFrom_14 : decode cX1_copyFrom 14 = .ok (.aload_n 1, 1) := by decide +kernel
theorem dX1_copyFrom_15 : decode cX1_copyFrom 15 = .ok (.getfield 15, 3) := by decide +kernel
theorem dX1_copyFrom_18 : decode cX1_copyFrom 18 = .ok (.putfield 15, 3) := by decide +kernel
theorem dX1_copyFrom_21 : decode cX1_copyFrom 21 = .ok (.aload_n 0, 1) := by decide +kernel
theorem dX1_copyFrom_22 : decode cX1_copyFrom 22 = .ok (.aload_n 1, 1) := by decide +kernel
theorem dX1_copyFrom_23 : decode cX1_copyFrom 23 = .ok (.getfield 18, 3) := by decide +kernel
theorem dX1_copyFrom_26 : decode cX1_copyFrom 26 = .ok (.putfield 18, 3) := by decide +kernel
theorem dX1_copyFrom_29 : decode cX1_copyFrom 29 = .ok (.aload_n 0, 1) := by decide +kernel
theorem dX1_copyFrom_30 : decode cX1_copyFrom 30 = .ok (.aload_n 1, 1) := by decide +kernel
theorem dX1_copyFrom_31 : decode cX1_copyFrom 31 = .ok (.getfield 21, 3) := by decide +kernel
theorem dX1_copyFrom_34 : decode cX1_copyFrom 34 = .ok (.putfield 21, 3) := by decide +kernel
theorem dX1_copyFrom_37 : decode cX1_copyFrom 37 = .ok (.aload_n 0, 1) := by decide +kernel
theorem dX1_copyFrom_38 : decode cX1_copyFrom 38 = .ok (.aload_n 1, 1) := by decide +kernel
theorem dX1_copyFrom_39 : decode cX1_copyFrom 39 = .ok (.getfield 24, 3) := by decide +kernel
theorem dX1_copyFrom_42 : decode cX1_copyFrom 42 = .ok (.putfield 24, 3) := by decide +kernel
theorem dX1_copyFrom_45 : decode cX1_copyFrom 45 = .ok (.aload_n 0, 1) := by decide +kernel
theorem dX1_copyFrom_46 : decode cX1_copyFrom 46 = .ok (.aload_n 1, 1) := by decide +kernel
theorem dX1_copyFrom_47 : decode cX1_copyFrom 47 = .ok (.getfield 41, 3) := by decide +kernel
theorem dX1_copyFrom_50 : decode cX1_copyFrom 50 = .ok (.putfield 41, 3) := by decide +kernel
theorem dX1_copyFrom_53 : decode cX1_copyFrom 53 = .ok (.aload_n 0, 1) := by decide +kernel
theorem dX1_copyFrom_54 : decode cX1_copyFrom 54 = .ok (.aload_n 1, 1) := by decide +kernel
theorem dX1_copyFrom_55 : decode cX1_copyFrom 55 = .ok (.getfield 59, 3) := by decide +kernel
theorem dX1_copyFrom_58 : decode cX1_copyFrom 58 = .ok (.putfield 59, 3) := by decide +kernel
theorem dX1_copyFrom_61 : decode cX1_copyFrom 61 = .ok (.aload_n 0, 1) := by decide +kernel
theorem dX1_copyFrom_62 : decode cX1_copyFrom 62 = .ok (.aload_n 1, 1) := by decide +kernel
theorem dX1_copyFrom_63 : decode cX1_copyFrom 63 = .ok (.getfield 62, 3) := by decide +kernel
theorem dX1_copyFrom_66 : decode cX1_copyFrom 66 = .ok (.putfield 62, 3) := by decide +kernel
theorem dX1_copyFrom_69 : decode cX1_copyFrom 69 = .ok (.aload_n 1, 1) := by decide +kernel
theorem dX1_copyFrom_70 : decode cX1_copyFrom 70 = .ok (.getfield 27, 3) := by decide +kernel
theorem dX1_copyFrom_73 : decode cX1_copyFrom 73 = .ok (.iconst 0, 1) := by decide +kernel
theorem dX1_copyFrom_74 : decode cX1_copyFrom 74 = .ok (.aload_n 0, 1) := by decide +kernel
theorem dX1_copyFrom_75 : decode cX1_copyFrom 75 = .ok (.getfield 27, 3) := by decide +kernel
theorem dX1_copyFrom_78 : decode cX1_copyFrom 78 = .ok (.iconst 0, 1) := by decide +kernel
theorem dX1_copyFrom_79 : decode cX1_copyFrom 79 = .ok (.iconst 4, 1) := by decide +kernel
theorem dX1_copyFrom_80 : decode cX1_copyFrom 80 = .ok (.invokestatic 65, 3) := by decide +kernel
theorem dX1_copyFrom_83 : decode cX1_copyFrom 83 = .ok (.aload_n 1, 1) := by decide +kernel
theorem dX1_copyFrom_84 : decode cX1_copyFrom 84 = .ok (.getfield 31, 3) := by decide +kernel
theorem dX1_copyFrom_87 : decode cX1_copyFrom 87 = .ok (.iconst 0, 1) := by decide +kernel
theorem dX1_copyFrom_88 : decode cX1_copyFrom 88 = .ok (.aload_n 0, 1) := by decide +kernel
theorem dX1_copyFrom_89 : decode cX1_copyFrom 89 = .ok (.getfield 31, 3) := by decide +kernel
theorem dX1_copyFrom_92 : decode cX1_copyFrom 92 = .ok (.iconst 0, 1) := by decide +kernel
theorem dX1_copyFrom_93 : decode cX1_copyFrom 93 = .ok (.iconst 4, 1) := by decide +kernel
theorem dX1_copyFrom_94 : decode cX1_copyFrom 94 = .ok (.invokestatic 65, 3) := by decide +kernel
theorem dX1_copyFrom_97 : decode cX1_copyFrom 97 = .ok (.aload_n 1, 1) := by decide +kernel
theorem dX1_copyFrom_98 : decode cX1_copyFrom 98 = .ok (.getfield 34, 3) := by decide +kernel
theorem dX1_copyFrom_101 : decode cX1_copyFrom 101 = .ok (.iconst 0, 1) := by decide +kernel
theorem dX1_copyFrom_102 : decode cX1_copyFrom 102 = .ok (.aload_n 0, 1) := by decide +kernel
theorem dX1_copyFrom_103 : decode cX1_copyFrom 103 = .ok (.getfield 34, 3) := by decide +kernel
theorem dX1_copyFrom_106 : decode cX1_copyFrom 106 = .ok (.iconst 0, 1) := by decide +kernel
theorem dX1_copyFrom_107 : decode cX1_copyFrom 107 = .ok (.iconst 4, 1) := by decide +kernel
theorem dX1_copyFrom_108 : decode cX1_copyFrom 108 = .ok (.invokestatic 65, 3) := by decide +kernel
theorem dX1_copyFrom_111 : decode cX1_copyFrom 111 = .ok (.aload_n 1, 1) := by decide +kernel
theorem dX1_copyFrom_112 : decode cX1_copyFrom 112 = .ok (.getfield 37, 3) := by decide +kernel
theorem dX1_copyFrom_115 : decode cX1_copyFrom 115 = .ok (.iconst 0, 1) := by decide +kernel
theorem dX1_copyFrom_116 : decode cX1_copyFrom 116 = .ok (.aload_n 0, 1) := by decide +kernel
theorem dX1_copyFrom_117 : decode cX1_copyFrom 117 = .ok (.getfield 37, 3) := by decide +kernel
theorem dX1_copyFrom_120 : decode cX1_copyFrom 120 = .ok (.iconst 0, 1) := by decide +kernel
theorem dX1_copyFrom_121 : decode cX1_copyFrom 121 = .ok (.iconst 4, 1) := by decide +kernel
theorem dX1_copyFrom_122 : decode cX1_copyFrom 122 = .ok (.invokestatic 65, 3) := by decide +kernel
theorem dX1_copyFrom_125 : decode cX1_copyFrom 125 = .ok (.aload_n 1, 1) := by decide +kernel
theorem dX1_copyFrom_126 : decode cX1_copyFrom 126 = .ok (.getfield 44, 3) := by decide +kernel
theorem dX1_copyFrom_129 : decode cX1_copyFrom 129 = .ok (.iconst 0, 1) := by decide +kernel
theorem dX1_copyFrom_130 : decode cX1_copyFrom 130 = .ok (.aload_n 0, 1) := by decide +kernel
theorem dX1_copyFrom_131 : decode cX1_copyFrom 131 = .ok (.getfield 44, 3) := by decide +kernel
theorem dX1_copyFrom_134 : decode cX1_copyFrom 134 = .ok (.iconst 0, 1) := by decide +kernel
theorem dX1_copyFrom_135 : decode cX1_copyFrom 135 = .ok (.bipush 6, 2) := by decide +kernel
theorem dX1_copyFrom_137 : decode cX1_copyFrom 137 = .ok (.invokestatic 65, 3) := by decide +kernel
theorem dX1_copyFrom_140 : decode cX1_copyFrom 140 = .ok (.aload_n 1, 1) := by decide +kernel
theorem dX1_copyFrom_141 : decode cX1_copyFrom 141 = .ok (.getfield 47, 3) := by decide +kernel
theorem dX1_copyFrom_144 : decode cX1_copyFrom 144 = .ok (.iconst 0, 1) := by decide +kernel
theorem dX1_copyFrom_145 : decode cX1_copyFrom 145 = .ok (.aload_n 0, 1) := by decide +kernel
theorem dX1_copyFrom_146 : decode cX1_copyFrom 146 = .ok (.getfield 47, 3) := by decide +kernel
theorem dX1_copyFrom_149 : decode cX1_copyFrom 149 = .ok (.iconst 0, 1) := by decide +kernel
theorem dX1_copyFrom_150 : decode cX1_copyFrom 150 = .ok (.bipush 6, 2) := by decide +kernel
theorem dX1_copyFrom_152 : decode cX1_copyFrom 152 = .ok (.invokestatic 65, 3) := by decide +kernel
theorem dX1_copyFrom_155 : decode cX1_copyFrom 155 = .ok (.aload_n 1, 1) := by decide +kernel
theorem dX1_copyFrom_156 : decode cX1_copyFrom 156 = .ok (.getfield 50, 3) := by decide +kernel
theorem dX1_copyFrom_159 : decode cX1_copyFrom 159 = .ok (.iconst 0, 1) := by decide +kernel
theorem dX1_copyFrom_160 : decode cX1_copyFrom 160 = .ok (.aload_n 0, 1) := by decide +kernel
theorem dX1_copyFrom_161 : decode cX1_copyFrom 161 = .ok (.getfield 50, 3) := by decide +kernel
theorem dX1_copyFrom_164 : decode cX1_copyFrom 164 = .ok (.iconst 0, 1) := by decide +kernel
theorem dX1_copyFrom_165 : decode cX1_copyFrom 165 = .ok (.bipush 6, 2) := by decide +kernel
theorem dX1_copyFrom_167 : decode cX1_copyFrom 167 = .ok (.invokestatic 65, 3) := by decide +kernel
theorem dX1_copyFrom_170 : decode cX1_copyFrom 170 = .ok (.aload_n 1, 1) := by decide +kernel
theorem dX1_copyFrom_171 : decode cX1_copyFrom 171 = .ok (.getfield 53, 3) := by decide +kernel
theorem dX1_copyFrom_174 : decode cX1_copyFrom 174 = .ok (.iconst 0, 1) := by decide +kernel
theorem dX1_copyFrom_175 : decode cX1_copyFrom 175 = .ok (.aload_n 0, 1) := by decide +kernel
theorem dX1_copyFrom_176 : decode cX1_copyFrom 176 = .ok (.getfield 53, 3) := by decide +kernel
theorem dX1_copyFrom_179 : decode cX1_copyFrom 179 = .ok (.iconst 0, 1) := by decide +kernel
theorem dX1_copyFrom_180 : decode cX1_copyFrom 180 = .ok (.bipush 6, 2) := by decide +kernel
theorem dX1_copyFrom_182 : decode cX1_copyFrom 182 = .ok (.invokestatic 65, 3) := by decide +kernel
theorem dX1_copyFrom_185 : decode cX1_copyFrom 185 = .ok (.aload_n 1, 1) := by decide +kernel
theorem dX1_copyFrom_186 : decode cX1_copyFrom 186 = .ok (.getfield 56, 3) := by decide +kernel
theorem dX1_copyFrom_189 : decode cX1_copyFrom 189 = .ok (.iconst 0, 1) := by decide +kernel
theorem dX1_copyFrom_190 : decode cX1_copyFrom 190 = .ok (.aload_n 0, 1) := by decide +kernel
theorem dX1_copyFrom_191 : decode cX1_copyFrom 191 = .ok (.getfield 56, 3) := by decide +kernel
theorem dX1_copyFrom_194 : decode cX1_copyFrom 194 = .ok (.iconst 0, 1) := by decide +kernel
theorem dX1_copyFrom_195 : decode cX1_copyFrom 195 = .ok (.bipush 6, 2) := by decide +kernel
theorem dX1_copyFrom_197 : decode cX1_copyFrom 197 = .ok (.invokestatic 65, 3) := by decide +kernel
theorem dX1_copyFrom_200 : decode cX1_copyFrom 200 = .ok (.return_, 1) := by decide +kernel
theorem dX1_hasHolder_0 : decode cX1_hasHolder 0 = .ok (.iload_n 1, 1) := by decide +kernel
theorem dX1_hasHolder_1 : decode cX1_hasHolder 1 = .ok (.ifCond .lt 20, 3) := by decide +kernel
theorem dX1_hasHolder_4 : decode cX1_hasHolder 4 = .ok (.iload_n 1, 1) := by decide +kernel
theorem dX1_hasHolder_5 : decode cX1_hasHolder 5 = .ok (.aload_n 0, 1) := by decide +kernel
theorem dX1_hasHolder_6 : decode cX1_hasHolder 6 = .ok (.getfield 24, 3) := by decide +kernel
theorem dX1_hasHolder_9 : decode cX1_hasHolder 9 = .ok (.if_icmp .ge 12, 3) := by decide +kernel
theorem dX1_hasHolder_12 : decode cX1_hasHolder 12 = .ok (.iload_n 1, 1) := by decide +kernel
theorem dX1_hasHolder_13 : decode cX1_hasHolder 13 = .ok (.iconst 4, 1) := by decide +kernel
theorem dX1_hasHolder_14 : decode cX1_hasHolder 14 = .ok (.if_icmp .ge 7, 3) := by decide +kernel
theorem dX1_hasHolder_17 : decode cX1_hasHolder 17 = .ok (.iconst 1, 1) := by decide +kernel
theorem dX1_hasHolder_18 : decode cX1_hasHolder 18 = .ok (.goto 4, 3) := by decide +kernel
theorem dX1_hasHolder_21 : decode cX1_hasHolder 21 = .ok (.iconst 0, 1) := by decide +kernel
theorem dX1_hasHolder_22 : decode cX1_hasHolder 22 = .ok (.ireturn, 1) := by decide +kernel
theorem dX1_hasBeast_0 : decode cX1_hasBeast 0 = .ok (.iload_n 1, 1) := by decide +kernel
theorem dX1_hasBeast_1 : decode cX1_hasBeast 1 = .ok (.ifCond .lt 21, 3) := by decide +kernel
theorem dX1_hasBeast_4 : decode cX1_hasBeast 4 = .ok (.iload_n 1, 1) := by decide +kernel
theorem dX1_hasBeast_5 : decode cX1_hasBeast 5 = .ok (.aload_n 0, 1) := by decide +kernel
theorem dX1_hasBeast_6 : decode cX1_hasBeast 6 = .ok (.getfield 41, 3) := by decide +kernel
theorem dX1_hasBeast_9 : decode cX1_hasBeast 9 = .ok (.if_icmp .ge 13, 3) := by decide +kernel
theorem dX1_hasBeast_12 : decode cX1_hasBeast 12 = .ok (.iload_n 1, 1) := by decide +kernel
theorem dX1_hasBeast_13 : decode cX1_hasBeast 13 = .ok (.bipush 6, 2) := by decide +kernel
theorem dX1_hasBeast_15 : decode cX1_hasBeast 15 = .ok (.if_icmp .ge 7, 3) := by decide +kernel
theorem dX1_hasBeast_18 : decode cX1_hasBeast 18 = .ok (.iconst 1, 1) := by decide +kernel
theorem dX1_hasBeast_19 : decode cX1_hasBeast 19 = .ok (.goto 4, 3) := by decide +kernel
theorem dX1_hasBeast_22 : decode cX1_hasBeast 22 = .ok (.iconst 0, 1) := by decide +kernel
theorem dX1_hasBeast_23 : decode cX1_hasBeast 23 = .ok (.ireturn, 1) := by decide +kernel
set_option maxRecDepth 20000 in
theorem ggX1_isAlive_X1_hasHolder : GoodIn wsX1_isAlive wsX1_hasHolder := goodIn_r _ [6, 7, 8, 9, 10, 11, 12, 13, 14, 15, 16, 17, 18, 19, 20, 21, 22, 23, 24] (by decide +kernel) (by decide +kernel)
set_option maxRecDepth 20000 in
theorem gX1_isAlive_X1_hasHolder : GoodIn wsX1_isAlive (wsV RX1 71 RX1 yX1_hasHolder wsX1_hasHolder) := goodIn_app (goodIn_of _ (by decide +kernel)) ggX1_isAlive_X1_hasHolder
theorem dX1_isAlive_0 : decode cX1_isAlive 0 = .ok (.aload_n 0, 1) := by decide +kernel
theorem dX1_isAlive_1 : decode cX1_isAlive 1 = .ok (.iload_n 1, 1) := by decide +kernel
theorem dX1_isAlive_2 : decode cX1_isAlive 2 = .ok (.invokevirtual 71, 3) := by decide +kernel
theorem dX1_isAlive_5 : decode cX1_isAlive 5 = .ok (.ifCond .eq 16, 3) := by decide +kernel
theorem dX1_isAlive_8 : decode cX1_isAlive 8 = .ok (.aload_n 0, 1) := by decide +kernel
theorem dX1_isAlive_9 : decode cX1_isAlive 9 = .ok (.getfield 37, 3) := by decide +kernel
theorem dX1_isAlive_12 : decode cX1_isAlive 12 = .ok (.iload_n 1, 1) := by decide +kernel
theorem dX1_isAlive_13 : decode cX1_isAlive 13 = .ok (.baload, 1) := by decide +kernel
theorem dX1_isAlive_14 : decode cX1_isAlive 14 = .ok (.ifCond .eq 7, 3) := by decide +kernel
theorem dX1_isAlive_17 : decode cX1_isAlive 17 = .ok (.iconst 1, 1) := by decide +kernel
theorem dX1_isAlive_18 : decode cX1_isAlive 18 = .ok (.goto 4, 3) := by decide +kernel
theorem dX1_isAlive_21 : decode cX1_isAlive 21 = .ok (.iconst 0, 1) := by decide +kernel
theorem dX1_isAlive_22 : decode cX1_isAlive 22 = .ok (.ireturn, 1) := by decide +kernel
set_option maxRecDepth 20000 in
theorem ggX1_countAlive_X1_isAlive : GoodIn wsX1_countAlive wsX1_isAlive := goodIn_r _ [6, 7, 8, 9, 10, 5, 11, 1, 12, 13, 14, 15, 16, 17, 18, 19, 20, 21, 22, 23, 24, 25, 26, 27, 28] (by decide +kernel) (by decide +kernel)
set_option maxRecDepth 20000 in
theorem gX1_countAlive_X1_isAlive : GoodIn wsX1_countAlive (wsV RX1 75 RX1 yX1_isAlive wsX1_isAlive) := goodIn_app (goodIn_of _ (by decide +kernel)) ggX1_countAlive_X1_isAlive
theorem dX1_countAlive_0 : decode cX1_countAlive 0 = .ok (.iconst 0, 1) := by decide +kernel
theorem dX1_countAlive_1 : decode cX1_countAlive 1 = .ok (.istore_n 1, 1) := by decide +kernel
theorem dX1_countAlive_2 : decode cX1_countAlive 2 = .ok (.iconst 0, 1) := by decide +kernel
theorem dX1_countAlive_3 : decode cX1_countAlive 3 = .ok (.istore_n 2, 1) := by decide +kernel
theorem dX1_countAlive_4 : decode cX1_countAlive 4 = .ok (.iload_n 2, 1) := by decide +kernel
theorem dX1_countAlive_5 : decode cX1_countAlive 5 = .ok (.aload_n 0, 1) := by decide +kernel
theorem dX1_countAlive_6 : decode cX1_countAlive 6 = .ok (.getfield 24, 3) := by decide +kernel
theorem dX1_countAlive_9 : decode cX1_countAlive 9 = .ok (.if_icmp .ge 20, 3) := by decide +kernel
theorem dX1_countAlive_12 : decode cX1_countAlive 12 = .ok (.aload_n 0, 1) := by decide +kernel
theorem dX1_countAlive_13 : decode cX1_countAlive 13 = .ok (.iload_n 2, 1) := by decide +kernel
theorem dX1_countAlive_14 : decode cX1_countAlive 14 = .ok (.invokevirtual 75, 3) := by decide +kernel
theorem dX1_countAlive_17 : decode cX1_countAlive 17 = .ok (.ifCond .eq 6, 3) := by decide +kernel
theorem dX1_countAlive_20 : decode cX1_countAlive 20 = .ok (.iinc 1 1, 3) := by decide +kernel
theorem dX1_countAlive_23 : decode cX1_countAlive 23 = .ok (.iinc 2 1, 3) := by decide +kernel
theorem dX1_countAlive_26 : decode cX1_countAlive 26 = .ok (.goto (-22), 3) := by decide +kernel
theorem dX1_countAlive_29 : decode cX1_countAlive 29 = .ok (.iload_n 1, 1) := by decide +kernel
theorem dX1_countAlive_30 : decode cX1_countAlive 30 = .ok (.ireturn, 1) := by decide +kernel
set_option maxRecDepth 20000 in
theorem ggX1_countNotGone_X1_hasBeast : GoodIn wsX1_countNotGone wsX1_hasBeast := goodIn_r _ [7, 1, 8, 9, 10, 11, 12, 13, 14, 15, 16, 17, 18, 19, 20, 21, 22, 23, 24] (by decide +kernel) (by decide +kernel)
set_option maxRecDepth 20000 in
theorem gX1_countNotGone_X1_hasBeast : GoodIn wsX1_countNotGone (wsV RX1 78 RX1 yX1_hasBeast wsX1_hasBeast) := goodIn_app (goodIn_of _ (by decide +kernel)) ggX1_countNotGone_X1_hasBeast
theorem dX1_countNotGone_0 : decode cX1_countNotGone 0 = .ok (.iconst 0, 1) := by decide +kernel
theorem dX1_countNotGone_1 : decode cX1_countNotGone 1 = .ok (.istore_n 1, 1) := by decide +kernel
theorem dX1_countNotGone_2 : decode cX1_countNotGone 2 = .ok (.iconst 0, 1) := by decide +kernel
theorem dX1_countNotGone_3 : decode cX1_countNotGone 3 = .ok (.istore_n 2, 1) := by decide +kernel
theorem dX1_countNotGone_4 : decode cX1_countNotGone 4 = .ok (.iload_n 2, 1) := by decide +kernel
theorem dX1_countNotGone_5 : decode cX1_countNotGone 5 = .ok (.aload_n 0, 1) := by decide +kernel
theorem dX1_countNotGone_6 : decode cX1_countNotGone 6 = .ok (.getfield 41, 3) := by decide +kernel
theorem dX1_countNotGone_9 : decode cX1_countNotGone 9 = .ok (.if_icmp .ge 30, 3) := by decide +kernel
theorem dX1_countNotGone_12 : decode cX1_countNotGone 12 = .ok (.aload_n 0, 1) := by decide +kernel
theorem dX1_countNotGone_13 : decode cX1_countNotGone 13 = .ok (.iload_n 2, 1) := by decide +kernel
theorem dX1_countNotGone_14 : decode cX1_countNotGone 14 = .ok (.invokevirtual 78, 3) := by decide +kernel
theorem dX1_countNotGone_17 : decode cX1_countNotGone 17 = .ok (.ifCond .eq 16, 3) := by decide +kernel
theorem dX1_countNotGone_20 : decode cX1_countNotGone 20 = .ok (.aload_n 0, 1) := by decide +kernel
theorem dX1_countNotGone_21 : decode cX1_countNotGone 21 = .ok (.getfield 47, 3) := by decide +kernel
theorem dX1_countNotGone_24 : decode cX1_countNotGone 24 = .ok (.iload_n 2, 1) := by decide +kernel
theorem dX1_countNotGone_25 : decode cX1_countNotGone 25 = .ok (.iaload, 1) := by decide +kernel
theorem dX1_countNotGone_26 : decode cX1_countNotGone 26 = .ok (.iconst (-1), 1) := by decide +kernel
theorem dX1_countNotGone_27 : decode cX1_countNotGone 27 = .ok (.if_icmp .eq 6, 3) := by decide +kernel
theorem dX1_countNotGone_30 : decode cX1_countNotGone 30 = .ok (.iinc 1 1, 3) := by decide +kernel
theorem dX1_countNotGone_33 : decode cX1_countNotGone 33 = .ok (.iinc 2 1, 3) := by decide +kernel
theorem dX1_countNotGone_36 : decode cX1_countNotGone 36 = .ok (.goto (-32), 3) := by decide +kernel
theorem dX1_countNotGone_39 : decode cX1_countNotGone 39 = .ok (.iload_n 1, 1) := by decide +kernel
theorem dX1_countNotGone_40 : decode cX1_countNotGone 40 = .ok (.ireturn, 1) := by decide +kernel
theorem dX1_addHolder_0 : decode cX1_addHolder 0 = .ok (.aload_n 0, 1) := by decide +kernel
theorem dX1_addHolder_1 : decode cX1_addHolder 1 = .ok (.getfield 24, 3) := by decide +kernel
theorem dX1_addHolder_4 : decode cX1_addHolder 4 = .ok (.ifCond .lt 11, 3) := by decide +kernel
theorem dX1_addHolder_7 : decode cX1_addHolder 7 = .ok (.aload_n 0, 1) := by decide +kernel
theorem dX1_addHolder_8 : decode cX1_addHolder 8 = .ok (.getfield 24, 3) := by decide +kernel
theorem dX1_addHolder_11 : decode cX1_addHolder 11 = .ok (.iconst 4, 1) := by decide +kernel
theorem dX1_addHolder_12 : decode cX1_addHolder 12 = .ok (.if_icmp .lt 6, 3) := by decide +kernel
theorem dX1_addHolder_15 : decode cX1_addHolder 15 = .ok (.bipush (-104), 2) := by decide +kernel
theorem dX1_addHolder_17 : decode cX1_addHolder 17 = .ok (.ireturn, 1) := by decide +kernel
theorem dX1_addHolder_18 : decode cX1_addHolder 18 = .ok (.aload_n 0, 1) := by decide +kernel
theorem dX1_addHolder_19 : decode cX1_addHolder 19 = .ok (.getfield 24, 3) := by decide +kernel
theorem dX1_addHolder_22 : decode cX1_addHolder 22 = .ok (.istore_n 3, 1) := by decide +kernel
theorem dX1_addHolder_23 : decode cX1_addHolder 23 = .ok (.aload_n 0, 1) := by decide +kernel
theorem dX1_addHolder_24 : decode cX1_addHolder 24 = .ok (.getfield 27, 3) := by decide +kernel
theorem dX1_addHolder_27 : decode cX1_addHolder 27 = .ok (.iload_n 3, 1) := by decide +kernel
theorem dX1_addHolder_28 : decode cX1_addHolder 28 = .ok (.iload_n 1, 1) := by decide +kernel
theorem dX1_addHolder_29 : decode cX1_addHolder 29 = .ok (.iastore, 1) := by decide +kernel
theorem dX1_addHolder_30 : decode cX1_addHolder 30 = .ok (.aload_n 0, 1) := by decide +kernel
theorem dX1_addHolder_31 : decode cX1_addHolder 31 = .ok (.getfield 31, 3) := by decide +kernel
theorem dX1_addHolder_34 : decode cX1_addHolder 34 = .ok (.iload_n 3, 1) := by decide +kernel
theorem dX1_addHolder_35 : decode cX1_addHolder 35 = .ok (.iload_n 2, 1) := by decide +kernel
theorem dX1_addHolder_36 : decode cX1_addHolder 36 = .ok (.iastore, 1) := by decide +kernel
theorem dX1_addHolder_37 : decode cX1_addHolder 37 = .ok (.aload_n 0, 1) := by decide +kernel
theorem dX1_addHolder_38 : decode cX1_addHolder 38 = .ok (.getfield 34, 3) := by decide +kernel
theorem dX1_addHolder_41 : decode cX1_addHolder 41 = .ok (.iload_n 3, 1) := by decide +kernel
theorem dX1_addHolder_42 : decode cX1_addHolder 42 = .ok (.iconst (-1), 1) := by decide +kernel
theorem dX1_addHolder_43 : decode cX1_addHolder 43 = .ok (.iastore, 1) := by decide +kernel
theorem dX1_addHolder_44 : decode cX1_addHolder 44 = .ok (.aload_n 0, 1) := by decide +kernel
theorem dX1_addHolder_45 : decode cX1_addHolder 45 = .ok (.getfield 37, 3) := by decide +kernel
theorem dX1_addHolder_48 : decode cX1_addHolder 48 = .ok (.iload_n 3, 1) := by decide +kernel
theorem dX1_addHolder_49 : decode cX1_addHolder 49 = .ok (.iconst 1, 1) := by decide +kernel
theorem dX1_addHolder_50 : decode cX1_addHolder 50 = .ok (.bastore, 1) := by decide +kernel
theorem dX1_addHolder_51 : decode cX1_addHolder 51 = .ok (.aload_n 0, 1) := by decide +kernel
theorem dX1_addHolder_52 : decode cX1_addHolder 52 = .ok (.dup, 1) := by decide +kernel
theorem dX1_addHolder_53 : decode cX1_addHolder 53 = .ok (.getfield 24, 3) := by decide +kernel
theorem dX1_addHolder_56 : decode cX1_addHolder 56 = .ok (.iconst 1, 1) := by decide +kernel
theorem dX1_addHolder_57 : decode cX1_addHolder 57 = .ok (.iadd, 1) := by decide +kernel
theorem dX1_addHolder_58 : decode cX1_addHolder 58 = .ok (.putfield 24, 3) := by decide +kernel
theorem dX1_addHolder_61 : decode cX1_addHolder 61 = .ok (.iload_n 3, 1) := by decide +kernel
theorem dX1_addHolder_62 : decode cX1_addHolder 62 = .ok (.ireturn, 1) := by decide +kernel
set_option maxRecDepth 20000 in
theorem ggX1_addBeast_X1_putTo : GoodIn wsX1_addBeast wsX1_putTo := goodIn_r _ [8, 9, 10, 11, 12, 13, 14, 7, 15, 1, 16, 17, 18, 19, 20, 21, 22, 23, 24, 25, 26, 27, 28, 29, 30, 31, 32] (by decide +kernel) (by decide +kernel)
set_option maxRecDepth 20000 in
theorem gX1_addBeast_X1_putTo : GoodIn wsX1_addBeast (wsV RX1 81 RX1 yX1_putTo wsX1_putTo) := goodIn_app (goodIn_of _ (by decide +kernel)) ggX1_addBeast_X1_putTo
theorem dX1_addBeast_0 : decode cX1_addBeast 0 = .ok (.aload_n 0, 1) := by decide +kernel
theorem dX1_addBeast_1 : decode cX1_addBeast 1 = .ok (.getfield 41, 3) := by decide +kernel
theorem dX1_addBeast_4 : decode cX1_addBeast 4 = .ok (.ifCond .lt 12, 3) := by decide +kernel
theorem dX1_addBeast_7 : decode cX1_addBeast 7 = .ok (.aload_n 0, 1) := by decide +kernel
theorem dX1_addBeast_8 : decode cX1_addBeast 8 = .ok (.getfield 41, 3) := by decide +kernel
theorem dX1_addBeast_11 : decode cX1_addBeast 11 = .ok (.bipush 6, 2) := by decide +kernel
theorem dX1_addBeast_13 : decode cX1_addBeast 13 = .ok (.if_icmp .lt 6, 3) := by decide +kernel
theorem dX1_addBeast_16 : decode cX1_addBeast 16 = .ok (.bipush (-104), 2) := by decide +kernel
theorem dX1_addBeast_18 : decode cX1_addBeast 18 = .ok (.ireturn, 1) := by decide +kernel
theorem dX1_addBeast_19 : decode cX1_addBeast 19 = .ok (.aload_n 0, 1) := by decide +kernel
theorem dX1_addBeast_20 : decode cX1_addBeast 20 = .ok (.getfield 41, 3) := by decide +kernel
theorem dX1_addBeast_23 : decode cX1_addBeast 23 = .ok (.istore_n 3, 1) := by decide +kernel
theorem dX1_addBeast_24 : decode cX1_addBeast 24 = .ok (.aload_n 0, 1) := by decide +kernel
theorem dX1_addBeast_25 : decode cX1_addBeast 25 = .ok (.dup, 1) := by decide +kernel
theorem dX1_addBeast_26 : decode cX1_addBeast 26 = .ok (.getfield 41, 3) := by decide +kernel
theorem dX1_addBeast_29 : decode cX1_addBeast 29 = .ok (.iconst 1, 1) := by decide +kernel
theorem dX1_addBeast_30 : decode cX1_addBeast 30 = .ok (.iadd, 1) := by decide +kernel
theorem dX1_addBeast_31 : decode cX1_addBeast 31 = .ok (.putfield 41, 3) := by decide +kernel
theorem dX1_addBeast_34 : decode cX1_addBeast 34 = .ok (.aload_n 0, 1) := by decide +kernel
theorem dX1_addBeast_35 : decode cX1_addBeast 35 = .ok (.getfield 44, 3) := by decide +kernel
theorem dX1_addBeast_38 : decode cX1_addBeast 38 = .ok (.iload_n 3, 1) := by decide +kernel
theorem dX1_addBeast_39 : decode cX1_addBeast 39 = .ok (.iload_n 2, 1) := by decide +kernel
theorem dX1_addBeast_40 : decode cX1_addBeast 40 = .ok (.iastore, 1) := by decide +kernel
theorem dX1_addBeast_41 : decode cX1_addBeast 41 = .ok (.aload_n 0, 1) := by decide +kernel
theorem dX1_addBeast_42 : decode cX1_addBeast 42 = .ok (.getfield 56, 3) := by decide +kernel
theorem dX1_addBeast_45 : decode cX1_addBeast 45 = .ok (.iload_n 3, 1) := by decide +kernel
theorem dX1_addBeast_46 : decode cX1_addBeast 46 = .ok (.iconst (-1), 1) := by decide +kernel
theorem dX1_addBeast_47 : decode cX1_addBeast 47 = .ok (.iastore, 1) := by decide +kernel
theorem dX1_addBeast_48 : decode cX1_addBeast 48 = .ok (.aload_n 0, 1) := by decide +kernel
theorem dX1_addBeast_49 : decode cX1_addBeast 49 = .ok (.iload_n 3, 1) := by decide +kernel
theorem dX1_addBeast_50 : decode cX1_addBeast 50 = .ok (.iload_n 1, 1) := by decide +kernel
theorem dX1_addBeast_51 : decode cX1_addBeast 51 = .ok (.invokevirtual 81, 3) := by decide +kernel
theorem dX1_addBeast_54 : decode cX1_addBeast 54 = .ok (.iload_n 3, 1) := by decide +kernel
theorem dX1_addBeast_55 : decode cX1_addBeast 55 = .ok (.ireturn, 1) := by decide +kernel
set_option maxRecDepth 20000 in
theorem ggX1_putTo_X1_hasBeast : GoodIn wsX1_putTo wsX1_hasBeast := goodIn_r _ [8, 9, 10, 11, 12, 13, 14, 15, 16, 17, 18, 19, 20, 21, 22, 23, 24, 25, 26] (by decide +kernel) (by decide +kernel)
set_option maxRecDepth 20000 in
theorem gX1_putTo_X1_hasBeast : GoodIn wsX1_putTo (wsV RX1 78 RX1 yX1_hasBeast wsX1_hasBeast) := goodIn_app (goodIn_of _ (by decide +kernel)) ggX1_putTo_X1_hasBeast
theorem dX1_putTo_0 : decode cX1_putTo 0 = .ok (.aload_n 0, 1) := by decide +kernel
theorem dX1_putTo_1 : decode cX1_putTo 1 = .ok (.iload_n 1, 1) := by decide +kernel
theorem dX1_putTo_2 : decode cX1_putTo 2 = .ok (.invokevirtual 78, 3) := by decide +kernel
theorem dX1_putTo_5 : decode cX1_putTo 5 = .ok (.ifCond .ne 4, 3) := by decide +kernel
theorem dX1_putTo_8 : decode cX1_putTo 8 = .ok (.return_, 1) := by decide +kernel
theorem dX1_putTo_9 : decode cX1_putTo 9 = .ok (.aload_n 0, 1) := by decide +kernel
theorem dX1_putTo_10 : decode cX1_putTo 10 = .ok (.getfield 47, 3) := by decide +kernel
theorem dX1_putTo_13 : decode cX1_putTo 13 = .ok (.iload_n 1, 1) := by decide +kernel
theorem dX1_putTo_14 : decode cX1_putTo 14 = .ok (.iload_n 2, 1) := by decide +kernel
theorem dX1_putTo_15 : decode cX1_putTo 15 = .ok (.iastore, 1) := by decide +kernel
theorem dX1_putTo_16 : decode cX1_putTo 16 = .ok (.aload_n 0, 1) := by decide +kernel
theorem dX1_putTo_17 : decode cX1_putTo 17 = .ok (.getfield 50, 3) := by decide +kernel
theorem dX1_putTo_20 : decode cX1_putTo 20 = .ok (.iload_n 1, 1) := by decide +kernel
theorem dX1_putTo_21 : decode cX1_putTo 21 = .ok (.iconst (-1), 1) := by decide +kernel
theorem dX1_putTo_22 : decode cX1_putTo 22 = .ok (.iastore, 1) := by decide +kernel
theorem dX1_putTo_23 : decode cX1_putTo 23 = .ok (.aload_n 0, 1) := by decide +kernel
theorem dX1_putTo_24 : decode cX1_putTo 24 = .ok (.getfield 53, 3) := by decide +kernel
theorem dX1_putTo_27 : decode cX1_putTo 27 = .ok (.iload_n 1, 1) := by decide +kernel
theorem dX1_putTo_28 : decode cX1_putTo 28 = .ok (.iconst (-1), 1) := by decide +kernel
theorem dX1_putTo_29 : decode cX1_putTo 29 = .ok (.iastore, 1) := by decide +kernel
theorem dX1_putTo_30 : decode cX1_putTo 30 = .ok (.return_, 1) := by decide +kernel
set_option maxRecDepth 20000 in
theorem ggX1_mayGive_X1_hasBeast : GoodIn wsX1_mayGive wsX1_hasBeast := goodIn_r _ [6, 7, 18, 19, 20, 21, 22, 23, 24, 25, 26, 27, 28, 29, 30, 31, 32, 33, 34] (by decide +kernel) (by decide +kernel)
set_option maxRecDepth 20000 in
theorem gX1_mayGive_X1_hasBeast : GoodIn wsX1_mayGive (wsV RX1 78 RX1 yX1_hasBeast wsX1_hasBeast) := goodIn_app (goodIn_of _ (by decide +kernel)) ggX1_mayGive_X1_hasBeast
set_option maxRecDepth 20000 in
theorem ggX1_mayGive_X1_isAlive : GoodIn wsX1_mayGive wsX1_isAlive := goodIn_r _ [11, 12, 13, 14, 15, 5, 16, 17, 18, 19, 20, 21, 22, 23, 24, 25, 26, 27, 28, 29, 30, 31, 32, 33, 34] (by decide +kernel) (by decide +kernel)
set_option maxRecDepth 20000 in
theorem gX1_mayGive_X1_isAlive : GoodIn wsX1_mayGive (wsV RX1 75 RX1 yX1_isAlive wsX1_isAlive) := goodIn_app (goodIn_of _ (by decide +kernel)) ggX1_mayGive_X1_isAlive
theorem dX1_mayGive_0 : decode cX1_mayGive 0 = .ok (.aload_n 0, 1) := by decide +kernel
theorem dX1_mayGive_1 : decode cX1_mayGive 1 = .ok (.iload_n 1, 1) := by decide +kernel
theorem dX1_mayGive_2 : decode cX1_mayGive 2 = .ok (.invokevirtual 78, 3) := by decide +kernel
theorem dX1_mayGive_5 : decode cX1_mayGive 5 = .ok (.ifCond .eq 35, 3) := by decide +kernel
theorem dX1_mayGive_8 : decode cX1_mayGive 8 = .ok (.aload_n 0, 1) := by decide +kernel
theorem dX1_mayGive_9 : decode cX1_mayGive 9 = .ok (.iload_n 2, 1) := by decide +kernel
theorem dX1_mayGive_10 : decode cX1_mayGive 10 = .ok (.invokevirtual 75, 3) := by decide +kernel
theorem dX1_mayGive_13 : decode cX1_mayGive 13 = .ok (.ifCond .eq 27, 3) := by decide +kernel
theorem dX1_mayGive_16 : decode cX1_mayGive 16 = .ok (.aload_n 0, 1) := by decide +kernel
theorem dX1_mayGive_17 : decode cX1_mayGive 17 = .ok (.getfield 47, 3) := by decide +kernel
theorem dX1_mayGive_20 : decode cX1_mayGive 20 = .ok (.iload_n 1, 1) := by decide +kernel
theorem dX1_mayGive_21 : decode cX1_mayGive 21 = .ok (.iaload, 1) := by decide +kernel
theorem dX1_mayGive_22 : decode cX1_mayGive 22 = .ok (.iconst (-1), 1) := by decide +kernel
theorem dX1_mayGive_23 : decode cX1_mayGive 23 = .ok (.if_icmp .eq 17, 3) := by decide +kernel
theorem dX1_mayGive_26 : decode cX1_mayGive 26 = .ok (.aload_n 0, 1) := by decide +kernel
theorem dX1_mayGive_27 : decode cX1_mayGive 27 = .ok (.getfield 47, 3) := by decide +kernel
theorem dX1_mayGive_30 : decode cX1_mayGive 30 = .ok (.iload_n 1, 1) := by decide +kernel
theorem dX1_mayGive_31 : decode cX1_mayGive 31 = .ok (.iaload, 1) := by decide +kernel
theorem dX1_mayGive_32 : decode cX1_mayGive 32 = .ok (.iload_n 2, 1) := by decide +kernel
theorem dX1_mayGive_33 : decode cX1_mayGive 33 = .ok (.if_icmp .eq 7, 3) := by decide +kernel
theorem dX1_mayGive_36 : decode cX1_mayGive 36 = .ok (.iconst 1, 1) := by decide +kernel
theorem dX1_mayGive_37 : decode cX1_mayGive 37 = .ok (.goto 4, 3) := by decide +kernel
theorem dX1_mayGive_40 : decode cX1_mayGive 40 = .ok (.iconst 0, 1) := by decide +kernel
theorem dX1_mayGive_41 : decode cX1_mayGive 41 = .ok (.ireturn, 1) := by decide +kernel
set_option maxRecDepth 20000 in
theorem ggX1_makeGift_X1_mayGive : GoodIn wsX1_makeGift wsX1_mayGive := goodIn_r _ [9, 2, 10, 11, 12, 8, 13, 14, 15, 16, 17, 18, 19, 20, 21, 22, 23, 24, 25, 26, 27, 28, 29, 30, 31, 32, 33, 34, 35, 36, 37, 38, 39, 40, 41] (by decide +kernel) (by decide +kernel)
set_option maxRecDepth 20000 in
theorem gX1_makeGift_X1_mayGive : GoodIn wsX1_makeGift (wsV RX1 85 RX1 yX1_mayGive wsX1_mayGive) := goodIn_app (goodIn_of _ (by decide +kernel)) ggX1_makeGift_X1_mayGive
theorem dX1_makeGift_0 : decode cX1_makeGift 0 = .ok (.aload_n 0, 1) := by decide +kernel
theorem dX1_makeGift_1 : decode cX1_makeGift 1 = .ok (.iload_n 1, 1) := by decide +kernel
theorem dX1_makeGift_2 : decode cX1_makeGift 2 = .ok (.iload_n 2, 1) := by decide +kernel
theorem dX1_makeGift_3 : decode cX1_makeGift 3 = .ok (.invokevirtual 85, 3) := by decide +kernel
theorem dX1_makeGift_6 : decode cX1_makeGift 6 = .ok (.ifCond .ne 4, 3) := by decide +kernel
theorem dX1_makeGift_9 : decode cX1_makeGift 9 = .ok (.return_, 1) := by decide +kernel
theorem dX1_makeGift_10 : decode cX1_makeGift 10 = .ok (.aload_n 0, 1) := by decide +kernel
theorem dX1_makeGift_11 : decode cX1_makeGift 11 = .ok (.getfield 50, 3) := by decide +kernel
theorem dX1_makeGift_14 : decode cX1_makeGift 14 = .ok (.iload_n 1, 1) := by decide +kernel
theorem dX1_makeGift_15 : decode cX1_makeGift 15 = .ok (.aload_n 0, 1) := by decide +kernel
theorem dX1_makeGift_16 : decode cX1_makeGift 16 = .ok (.getfield 47, 3) := by decide +kernel
theorem dX1_makeGift_19 : decode cX1_makeGift 19 = .ok (.iload_n 1, 1) := by decide +kernel
theorem dX1_makeGift_20 : decode cX1_makeGift 20 = .ok (.iaload, 1) := by decide +kernel
theorem dX1_makeGift_21 : decode cX1_makeGift 21 = .ok (.iastore, 1) := by decide +kernel
theorem dX1_makeGift_22 : decode cX1_makeGift 22 = .ok (.aload_n 0, 1) := by decide +kernel
theorem dX1_makeGift_23 : decode cX1_makeGift 23 = .ok (.getfield 53, 3) := by decide +kernel
theorem dX1_makeGift_26 : decode cX1_makeGift 26 = .ok (.iload_n 1, 1) := by decide +kernel
theorem dX1_makeGift_27 : decode cX1_makeGift 27 = .ok (.aload_n 0, 1) := by decide +kernel
theorem dX1_makeGift_28 : decode cX1_makeGift 28 = .ok (.getfield 59, 3) := by decide +kernel
theorem dX1_makeGift_31 : decode cX1_makeGift 31 = .ok (.iastore, 1) := by decide +kernel
theorem dX1_makeGift_32 : decode cX1_makeGift 32 = .ok (.aload_n 0, 1) := by decide +kernel
theorem dX1_makeGift_33 : decode cX1_makeGift 33 = .ok (.getfield 47, 3) := by decide +kernel
theorem dX1_makeGift_36 : decode cX1_makeGift 36 = .ok (.iload_n 1, 1) := by decide +kernel
theorem dX1_makeGift_37 : decode cX1_makeGift 37 = .ok (.iload_n 2, 1) := by decide +kernel
theorem dX1_makeGift_38 : decode cX1_makeGift 38 = .ok (.iastore, 1) := by decide +kernel
theorem dX1_makeGift_39 : decode cX1_makeGift 39 = .ok (.return_, 1) := by decide +kernel
theorem dX1_lordMay_0 : decode cX1_lordMay 0 = .ok (.iload_n 1, 1) := by decide +kernel
theorem dX1_lordMay_1 : decode cX1_lordMay 1 = .ok (.iconst 3, 1) := by decide +kernel
theorem dX1_lordMay_2 : decode cX1_lordMay 2 = .ok (.if_icmp .eq 8, 3) := by decide +kernel
theorem dX1_lordMay_5 : decode cX1_lordMay 5 = .ok (.iload_n 1, 1) := by decide +kernel
theorem dX1_lordMay_6 : decode cX1_lordMay 6 = .ok (.iconst 4, 1) := by decide +kernel
theorem dX1_lordMay_7 : decode cX1_lordMay 7 = .ok (.if_icmp .ne 5, 3) := by decide +kernel
theorem dX1_lordMay_10 : decode cX1_lordMay 10 = .ok (.iconst 0, 1) := by decide +kernel
theorem dX1_lordMay_11 : decode cX1_lordMay 11 = .ok (.ireturn, 1) := by decide +kernel
theorem dX1_lordMay_12 : decode cX1_lordMay 12 = .ok (.iload_n 1, 1) := by decide +kernel
theorem dX1_lordMay_13 : decode cX1_lordMay 13 = .ok (.iconst 1, 1) := by decide +kernel
theorem dX1_lordMay_14 : decode cX1_lordMay 14 = .ok (.if_icmp .ne 16, 3) := by decide +kernel
theorem dX1_lordMay_17 : decode cX1_lordMay 17 = .ok (.iconst 0, 1) := by decide +kernel
theorem dX1_lordMay_18 : decode cX1_lordMay 18 = .ok (.aload_n 0, 1) := by decide +kernel
theorem dX1_lordMay_19 : decode cX1_lordMay 19 = .ok (.getfield 9, 3) := by decide +kernel
theorem dX1_lordMay_22 : decode cX1_lordMay 22 = .ok (.iconst 1, 1) := by decide +kernel
theorem dX1_lordMay_23 : decode cX1_lordMay 23 = .ok (.isub, 1) := by decide +kernel
theorem dX1_lordMay_24 : decode cX1_lordMay 24 = .ok (.invokestatic 89, 3) := by decide +kernel
theorem dX1_lordMay_27 : decode cX1_lordMay 27 = .ok (.goto 7, 3) := by decide +kernel
theorem dX1_lordMay_30 : decode cX1_lordMay 30 = .ok (.aload_n 0, 1) := by decide +kernel
theorem dX1_lordMay_31 : decode cX1_lordMay 31 = .ok (.getfield 9, 3) := by decide +kernel
theorem dX1_lordMay_34 : decode cX1_lordMay 34 = .ok (.ireturn, 1) := by decide +kernel
theorem dX1_churchMay_0 : decode cX1_churchMay 0 = .ok (.iload_n 1, 1) := by decide +kernel
theorem dX1_churchMay_1 : decode cX1_churchMay 1 = .ok (.iconst 2, 1) := by decide +kernel
theorem dX1_churchMay_2 : decode cX1_churchMay 2 = .ok (.if_icmp .ne 10, 3) := by decide +kernel
theorem dX1_churchMay_5 : decode cX1_churchMay 5 = .ok (.aload_n 0, 1) := by decide +kernel
theorem dX1_churchMay_6 : decode cX1_churchMay 6 = .ok (.getfield 15, 3) := by decide +kernel
theorem dX1_churchMay_9 : decode cX1_churchMay 9 = .ok (.iconst 1, 1) := by decide +kernel
theorem dX1_churchMay_10 : decode cX1_churchMay 10 = .ok (.iadd, 1) := by decide +kernel
theorem dX1_churchMay_11 : decode cX1_churchMay 11 = .ok (.ireturn, 1) := by decide +kernel
theorem dX1_churchMay_12 : decode cX1_churchMay 12 = .ok (.iload_n 1, 1) := by decide +kernel
theorem dX1_churchMay_13 : decode cX1_churchMay 13 = .ok (.iconst 4, 1) := by decide +kernel
theorem dX1_churchMay_14 : decode cX1_churchMay 14 = .ok (.if_icmp .ne 16, 3) := by decide +kernel
theorem dX1_churchMay_17 : decode cX1_churchMay 17 = .ok (.iconst 0, 1) := by decide +kernel
theorem dX1_churchMay_18 : decode cX1_churchMay 18 = .ok (.aload_n 0, 1) := by decide +kernel
theorem dX1_churchMay_19 : decode cX1_churchMay 19 = .ok (.getfield 15, 3) := by decide +kernel
theorem dX1_churchMay_22 : decode cX1_churchMay 22 = .ok (.iconst 2, 1) := by decide +kernel
theorem dX1_churchMay_23 : decode cX1_churchMay 23 = .ok (.isub, 1) := by decide +kernel
theorem dX1_churchMay_24 : decode cX1_churchMay 24 = .ok (.invokestatic 89, 3) := by decide +kernel
theorem dX1_churchMay_27 : decode cX1_churchMay 27 = .ok (.goto 7, 3) := by decide +kernel
theorem dX1_churchMay_30 : decode cX1_churchMay 30 = .ok (.aload_n 0, 1) := by decide +kernel
theorem dX1_churchMay_31 : decode cX1_churchMay 31 = .ok (.getfield 15, 3) := by decide +kernel
theorem dX1_churchMay_34 : decode cX1_churchMay 34 = .ok (.ireturn, 1) := by decide +kernel
set_option maxRecDepth 20000 in
theorem ggX1_ownBits_X1_hasBeast : GoodIn wsX1_ownBits wsX1_hasBeast := goodIn_r _ [7, 1, 8, 9, 10, 11, 12, 13, 14, 15, 16, 17, 18, 19, 20, 21, 22, 23, 24] (by decide +kernel) (by decide +kernel)
set_option maxRecDepth 20000 in
theorem gX1_ownBits_X1_hasBeast : GoodIn wsX1_ownBits (wsV RX1 78 RX1 yX1_hasBeast wsX1_hasBeast) := goodIn_app (goodIn_of _ (by decide +kernel)) ggX1_ownBits_X1_hasBeast
theorem dX1_ownBits_0 : decode cX1_ownBits 0 = .ok (.iconst 0, 1) := by decide +kernel
theorem dX1_ownBits_1 : decode cX1_ownBits 1 = .ok (.istore_n 2, 1) := by decide +kernel
theorem dX1_ownBits_2 : decode cX1_ownBits 2 = .ok (.iconst 0, 1) := by decide +kernel
theorem dX1_ownBits_3 : decode cX1_ownBits 3 = .ok (.istore_n 3, 1) := by decide +kernel
theorem dX1_ownBits_4 : decode cX1_ownBits 4 = .ok (.iload_n 3, 1) := by decide +kernel
theorem dX1_ownBits_5 : decode cX1_ownBits 5 = .ok (.aload_n 0, 1) := by decide +kernel
theorem dX1_ownBits_6 : decode cX1_ownBits 6 = .ok (.getfield 41, 3) := by decide +kernel
theorem dX1_ownBits_9 : decode cX1_ownBits 9 = .ok (.if_icmp .ge 33, 3) := by decide +kernel
theorem dX1_ownBits_12 : decode cX1_ownBits 12 = .ok (.aload_n 0, 1) := by decide +kernel
theorem dX1_ownBits_13 : decode cX1_ownBits 13 = .ok (.iload_n 3, 1) := by decide +kernel
theorem dX1_ownBits_14 : decode cX1_ownBits 14 = .ok (.invokevirtual 78, 3) := by decide +kernel
theorem dX1_ownBits_17 : decode cX1_ownBits 17 = .ok (.ifCond .eq 19, 3) := by decide +kernel
theorem dX1_ownBits_20 : decode cX1_ownBits 20 = .ok (.aload_n 0, 1) := by decide +kernel
theorem dX1_ownBits_21 : decode cX1_ownBits 21 = .ok (.getfield 47, 3) := by decide +kernel
theorem dX1_ownBits_24 : decode cX1_ownBits 24 = .ok (.iload_n 3, 1) := by decide +kernel
theorem dX1_ownBits_25 : decode cX1_ownBits 25 = .ok (.iaload, 1) := by decide +kernel
theorem dX1_ownBits_26 : decode cX1_ownBits 26 = .ok (.iload_n 1, 1) := by decide +kernel
theorem dX1_ownBits_27 : decode cX1_ownBits 27 = .ok (.if_icmp .ne 9, 3) := by decide +kernel
theorem dX1_ownBits_30 : decode cX1_ownBits 30 = .ok (.iload_n 2, 1) := by decide +kernel
theorem dX1_ownBits_31 : decode cX1_ownBits 31 = .ok (.iconst 1, 1) := by decide +kernel
theorem dX1_ownBits_32 : decode cX1_ownBits 32 = .ok (.iload_n 3, 1) := by decide +kernel
theorem dX1_ownBits_33 : decode cX1_ownBits 33 = .ok (.ishl, 1) := by decide +kernel
theorem dX1_ownBits_34 : decode cX1_ownBits 34 = .ok (.ior, 1) := by decide +kernel
theorem dX1_ownBits_35 : decode cX1_ownBits 35 = .ok (.istore_n 2, 1) := by decide +kernel
theorem dX1_ownBits_36 : decode cX1_ownBits 36 = .ok (.iinc 3 1, 3) := by decide +kernel
theorem dX1_ownBits_39 : decode cX1_ownBits 39 = .ok (.goto (-35), 3) := by decide +kernel
theorem dX1_ownBits_42 : decode cX1_ownBits 42 = .ok (.iload_n 2, 1) := by decide +kernel
theorem dX1_ownBits_43 : decode cX1_ownBits 43 = .ok (.ireturn, 1) := by decide +kernel
set_option maxRecDepth 20000 in
theorem ggX1_heldBits_X1_heldLater : GoodIn wsX1_heldBits wsX1_heldLater := goodIn_r _ [5, 6, 7, 8, 9, 10, 11, 12, 13, 4, 14, 15, 16, 17, 18, 19, 20, 21, 22, 23, 24, 25, 26, 27, 28, 29, 30, 31, 32, 33, 34, 35, 36] (by decide +kernel) (by decide +kernel)
set_option maxRecDepth 20000 in
theorem gX1_heldBits_X1_heldLater : GoodIn wsX1_heldBits (wsV RX1 95 RX1 yX1_heldLater wsX1_heldLater) := goodIn_app (goodIn_of _ (by decide +kernel)) ggX1_heldBits_X1_heldLater
theorem dX1_heldBits_0 : decode cX1_heldBits 0 = .ok (.aload_n 0, 1) := by decide +kernel
theorem dX1_heldBits_1 : decode cX1_heldBits 1 = .ok (.iload_n 1, 1) := by decide +kernel
theorem dX1_heldBits_2 : decode cX1_heldBits 2 = .ok (.iconst 0, 1) := by decide +kernel
theorem dX1_heldBits_3 : decode cX1_heldBits 3 = .ok (.iconst 0, 1) := by decide +kernel
theorem dX1_heldBits_4 : decode cX1_heldBits 4 = .ok (.invokevirtual 95, 3) := by decide +kernel
theorem dX1_heldBits_7 : decode cX1_heldBits 7 = .ok (.ireturn, 1) := by decide +kernel
set_option maxRecDepth 20000 in
theorem ggX1_heldLater_X1_ownBits : GoodIn wsX1_heldLater wsX1_ownBits := goodIn_r _ [10, 2, 11, 12, 13, 14, 9, 15, 16, 17, 18, 19, 20, 21, 22, 23, 24, 25, 26, 27, 28, 29, 30, 31, 32] (by decide +kernel) (by decide +kernel)
set_option maxRecDepth 20000 in
theorem gX1_heldLater_X1_ownBits : GoodIn wsX1_heldLater (wsV RX1 99 RX1 yX1_ownBits wsX1_ownBits) := goodIn_app (goodIn_of _ (by decide +kernel)) ggX1_heldLater_X1_ownBits
set_option maxRecDepth 20000 in
theorem ggX1_heldLater_X1_hasBeast : GoodIn wsX1_heldLater wsX1_hasBeast := goodIn_r _ [15, 2, 16, 17, 18, 19, 20, 21, 22, 23, 24, 25, 26, 27, 28, 29, 30, 31, 32] (by decide +kernel) (by decide +kernel)
set_option maxRecDepth 20000 in
theorem gX1_heldLater_X1_hasBeast : GoodIn wsX1_heldLater (wsV RX1 78 RX1 yX1_hasBeast wsX1_hasBeast) := goodIn_app (goodIn_of _ (by decide +kernel)) ggX1_heldLater_X1_hasBeast
theorem dX1_heldLater_0 : decode cX1_heldLater 0 = .ok (.aload_n 0, 1) := by decide +kernel
theorem dX1_heldLater_1 : decode cX1_heldLater 1 = .ok (.iload_n 1, 1) := by decide +kernel
theorem dX1_heldLater_2 : decode cX1_heldLater 2 = .ok (.invokevirtual 99, 3) := by decide +kernel
theorem dX1_heldLater_5 : decode cX1_heldLater 5 = .ok (.istore 4, 2) := by decide +kernel
theorem dX1_heldLater_7 : decode cX1_heldLater 7 = .ok (.iload_n 2, 1) := by decide +kernel
theorem dX1_heldLater_8 : decode cX1_heldLater 8 = .ok (.aload_n 0, 1) := by decide +kernel
theorem dX1_heldLater_9 : decode cX1_heldLater 9 = .ok (.getfield 18, 3) := by decide +kernel
theorem dX1_heldLater_12 : decode cX1_heldLater 12 = .ok (.if_icmp .lt 11, 3) := by decide +kernel
theorem dX1_heldLater_15 : decode cX1_heldLater 15 = .ok (.iload 4, 2) := by decide +kernel
theorem dX1_heldLater_17 : decode cX1_heldLater 17 = .ok (.iload_n 3, 1) := by decide +kernel
theorem dX1_heldLater_18 : decode cX1_heldLater 18 = .ok (.iconst (-1), 1) := by decide +kernel
theorem dX1_heldLater_19 : decode cX1_heldLater 19 = .ok (.ixor, 1) := by decide +kernel
theorem dX1_heldLater_20 : decode cX1_heldLater 20 = .ok (.iand, 1) := by decide +kernel
theorem dX1_heldLater_21 : decode cX1_heldLater 21 = .ok (.istore 4, 2) := by decide +kernel
theorem dX1_heldLater_23 : decode cX1_heldLater 23 = .ok (.iconst 0, 1) := by decide +kernel
theorem dX1_heldLater_24 : decode cX1_heldLater 24 = .ok (.istore 5, 2) := by decide +kernel
theorem dX1_heldLater_26 : decode cX1_heldLater 26 = .ok (.iload 5, 2) := by decide +kernel
theorem dX1_heldLater_28 : decode cX1_heldLater 28 = .ok (.aload_n 0, 1) := by decide +kernel
theorem dX1_heldLater_29 : decode cX1_heldLater 29 = .ok (.getfield 41, 3) := by decide +kernel
theorem dX1_heldLater_32 : decode cX1_heldLater 32 = .ok (.if_icmp .ge 59, 3) := by decide +kernel
theorem dX1_heldLater_35 : decode cX1_heldLater 35 = .ok (.aload_n 0, 1) := by decide +kernel
theorem dX1_heldLater_36 : decode cX1_heldLater 36 = .ok (.iload 5, 2) := by decide +kernel
theorem dX1_heldLater_38 : decode cX1_heldLater 38 = .ok (.invokevirtual 78, 3) := by decide +kernel
theorem dX1_heldLater_41 : decode cX1_heldLater 41 = .ok (.ifCond .eq 44, 3) := by decide +kernel
theorem dX1_heldLater_44 : decode cX1_heldLater 44 = .ok (.aload_n 0, 1) := by decide +kernel
theorem dX1_heldLater_45 : decode cX1_heldLater 45 = .ok (.getfield 50, 3) := by decide +kernel
theorem dX1_heldLater_48 : decode cX1_heldLater 48 = .ok (.iload 5, 2) := by decide +kernel
theorem dX1_heldLater_50 : decode cX1_heldLater 50 = .ok (.iaload, 1) := by decide +kernel
theorem dX1_heldLater_51 : decode cX1_heldLater 51 = .ok (.iload_n 1, 1) := by decide +kernel
theorem dX1_heldLater_52 : decode cX1_heldLater 52 = .ok (.if_icmp .ne 33, 3) := by decide +kernel
theorem dX1_heldLater_55 : decode cX1_heldLater 55 = .ok (.aload_n 0, 1) := by decide +kernel
theorem dX1_heldLater_56 : decode cX1_heldLater 56 = .ok (.getfield 59, 3) := by decide +kernel
theorem dX1_heldLater_59 : decode cX1_heldLater 59 = .ok (.iload_n 2, 1) := by decide +kernel
theorem dX1_heldLater_60 : decode cX1_heldLater 60 = .ok (.iadd, 1) := by decide +kernel
theorem dX1_heldLater_61 : decode cX1_heldLater 61 = .ok (.aload_n 0, 1) := by decide +kernel
theorem dX1_heldLater_62 : decode cX1_heldLater 62 = .ok (.getfield 53, 3) := by decide +kernel
theorem dX1_heldLater_65 : decode cX1_heldLater 65 = .ok (.iload 5, 2) := by decide +kernel
theorem dX1_heldLater_67 : decode cX1_heldLater 67 = .ok (.iaload, 1) := by decide +kernel
theorem dX1_heldLater_68 : decode cX1_heldLater 68 = .ok (.isub, 1) := by decide +kernel
theorem dX1_heldLater_69 : decode cX1_heldLater 69 = .ok (.aload_n 0, 1) := by decide +kernel
theorem dX1_heldLater_70 : decode cX1_heldLater 70 = .ok (.getfield 18, 3) := by decide +kernel
theorem dX1_heldLater_73 : decode cX1_heldLater 73 = .ok (.if_icmp .ge 12, 3) := by decide +kernel
theorem dX1_heldLater_76 : decode cX1_heldLater 76 = .ok (.iload 4, 2) := by decide +kernel
theorem dX1_heldLater_78 : decode cX1_heldLater 78 = .ok (.iconst 1, 1) := by decide +kernel
theorem dX1_heldLater_79 : decode cX1_heldLater 79 = .ok (.iload 5, 2) := by decide +kernel
theorem dX1_heldLater_81 : decode cX1_heldLater 81 = .ok (.ishl, 1) := by decide +kernel
theorem dX1_heldLater_82 : decode cX1_heldLater 82 = .ok (.ior, 1) := by decide +kernel
theorem dX1_heldLater_83 : decode cX1_heldLater 83 = .ok (.istore 4, 2) := by decide +kernel
theorem dX1_heldLater_85 : decode cX1_heldLater 85 = .ok (.iinc 5 1, 3) := by decide +kernel
theorem dX1_heldLater_88 : decode cX1_heldLater 88 = .ok (.goto (-62), 3) := by decide +kernel
theorem dX1_heldLater_91 : decode cX1_heldLater 91 = .ok (.iload 4, 2) := by decide +kernel
theorem dX1_heldLater_93 : decode cX1_heldLater 93 = .ok (.ireturn, 1) := by decide +kernel
set_option maxRecDepth 20000 in
theorem ggX1_takenFrom_X1_hasHolder : GoodIn wsX1_takenFrom wsX1_hasHolder := goodIn_r _ [6, 7, 33, 34, 35, 36, 37, 38, 39, 40, 41, 42, 43, 44, 45, 46, 47, 48, 49] (by decide +kernel) (by decide +kernel)
set_option maxRecDepth 20000 in
theorem gX1_takenFrom_X1_hasHolder : GoodIn wsX1_takenFrom (wsV RX1 71 RX1 yX1_hasHolder wsX1_hasHolder) := goodIn_app (goodIn_of _ (by decide +kernel)) ggX1_takenFrom_X1_hasHolder
set_option maxRecDepth 20000 in
theorem ggX1_takenFrom_X1_lordMay : GoodIn wsX1_takenFrom wsX1_lordMay := goodIn_r _ [11, 12, 13, 14, 15, 16, 33, 34, 35, 36, 37, 38, 39, 40, 41, 42, 43, 44, 45, 46, 47, 48, 49] (by decide +kernel) (by decide +kernel)
set_option maxRecDepth 20000 in
theorem gX1_takenFrom_X1_lordMay : GoodIn wsX1_takenFrom (wsV RX1 103 RX1 yX1_lordMay wsX1_lordMay) := goodIn_app (goodIn_of _ (by decide +kernel)) ggX1_takenFrom_X1_lordMay
set_option maxRecDepth 20000 in
theorem ggX1_takenFrom_X1_churchMay : GoodIn wsX1_takenFrom wsX1_churchMay := goodIn_r _ [20, 21, 13, 14, 15, 16, 33, 34, 35, 36, 37, 38, 39, 40, 41, 42, 43, 44, 45, 46, 47, 48, 49] (by decide +kernel) (by decide +kernel)
set_option maxRecDepth 20000 in
theorem gX1_takenFrom_X1_churchMay : GoodIn wsX1_takenFrom (wsV RX1 106 RX1 yX1_churchMay wsX1_churchMay) := goodIn_app (goodIn_of _ (by decide +kernel)) ggX1_takenFrom_X1_churchMay
set_option maxRecDepth 20000 in
theorem ggX1_takenFrom_X1_bestOf : GoodIn wsX1_takenFrom wsX1_bestOf := goodIn_r _ [25, 26, 27, 28, 29, 30, 31, 5, 32, 33, 34, 35, 36, 37, 38, 39, 40, 41, 42, 43, 44, 45, 46, 47, 48, 49] (by decide +kernel) (by decide +kernel)
set_option maxRecDepth 20000 in
theorem gX1_takenFrom_X1_bestOf : GoodIn wsX1_takenFrom (wsV RX1 109 RX1 yX1_bestOf wsX1_bestOf) := goodIn_app (goodIn_of _ (by decide +kernel)) ggX1_takenFrom_X1_bestOf
theorem dX1_takenFrom_0 : decode cX1_takenFrom 0 = .ok (.aload_n 0, 1) := by decide +kernel
theorem dX1_takenFrom_1 : decode cX1_takenFrom 1 = .ok (.iload_n 1, 1) := by decide +kernel
theorem dX1_takenFrom_2 : decode cX1_takenFrom 2 = .ok (.invokevirtual 71, 3) := by decide +kernel
theorem dX1_takenFrom_5 : decode cX1_takenFrom 5 = .ok (.ifCond .ne 5, 3) := by decide +kernel
theorem dX1_takenFrom_8 : decode cX1_takenFrom 8 = .ok (.iconst 0, 1) := by decide +kernel
theorem dX1_takenFrom_9 : decode cX1_takenFrom 9 = .ok (.ireturn, 1) := by decide +kernel
theorem dX1_takenFrom_10 : decode cX1_takenFrom 10 = .ok (.aload_n 0, 1) := by decide +kernel
theorem dX1_takenFrom_11 : decode cX1_takenFrom 11 = .ok (.aload_n 0, 1) := by decide +kernel
theorem dX1_takenFrom_12 : decode cX1_takenFrom 12 = .ok (.getfield 27, 3) := by decide +kernel
theorem dX1_takenFrom_15 : decode cX1_takenFrom 15 = .ok (.iload_n 1, 1) := by decide +kernel
theorem dX1_takenFrom_16 : decode cX1_takenFrom 16 = .ok (.iaload, 1) := by decide +kernel
theorem dX1_takenFrom_17 : decode cX1_takenFrom 17 = .ok (.invokevirtual 103, 3) := by decide +kernel
theorem dX1_takenFrom_20 : decode cX1_takenFrom 20 = .ok (.aload_n 0, 1) := by decide +kernel
theorem dX1_takenFrom_21 : decode cX1_takenFrom 21 = .ok (.aload_n 0, 1) := by decide +kernel
theorem dX1_takenFrom_22 : decode cX1_takenFrom 22 = .ok (.getfield 27, 3) := by decide +kernel
theorem dX1_takenFrom_25 : decode cX1_takenFrom 25 = .ok (.iload_n 1, 1) := by decide +kernel
theorem dX1_takenFrom_26 : decode cX1_takenFrom 26 = .ok (.iaload, 1) := by decide +kernel
theorem dX1_takenFrom_27 : decode cX1_takenFrom 27 = .ok (.invokevirtual 106, 3) := by decide +kernel
theorem dX1_takenFrom_30 : decode cX1_takenFrom 30 = .ok (.iadd, 1) := by decide +kernel
theorem dX1_takenFrom_31 : decode cX1_takenFrom 31 = .ok (.istore_n 3, 1) := by decide +kernel
theorem dX1_takenFrom_32 : decode cX1_takenFrom 32 = .ok (.iconst 0, 1) := by decide +kernel
theorem dX1_takenFrom_33 : decode cX1_takenFrom 33 = .ok (.istore 4, 2) := by decide +kernel
theorem dX1_takenFrom_35 : decode cX1_takenFrom 35 = .ok (.iconst 0, 1) := by decide +kernel
theorem dX1_takenFrom_36 : decode cX1_takenFrom 36 = .ok (.istore 5, 2) := by decide +kernel
theorem dX1_takenFrom_38 : decode cX1_takenFrom 38 = .ok (.iload 5, 2) := by decide +kernel
theorem dX1_takenFrom_40 : decode cX1_takenFrom 40 = .ok (.iload_n 3, 1) := by decide +kernel
theorem dX1_takenFrom_41 : decode cX1_takenFrom 41 = .ok (.if_icmp .ge 39, 3) := by decide +kernel
theorem dX1_takenFrom_44 : decode cX1_takenFrom 44 = .ok (.aload_n 0, 1) := by decide +kernel
theorem dX1_takenFrom_45 : decode cX1_takenFrom 45 = .ok (.iload_n 2, 1) := by decide +kernel
theorem dX1_takenFrom_46 : decode cX1_takenFrom 46 = .ok (.iload 4, 2) := by decide +kernel
theorem dX1_takenFrom_48 : decode cX1_takenFrom 48 = .ok (.iconst (-1), 1) := by decide +kernel
theorem dX1_takenFrom_49 : decode cX1_takenFrom 49 = .ok (.ixor, 1) := by decide +kernel
theorem dX1_takenFrom_50 : decode cX1_takenFrom 50 = .ok (.iand, 1) := by decide +kernel
theorem dX1_takenFrom_51 : decode cX1_takenFrom 51 = .ok (.invokevirtual 109, 3) := by decide +kernel
theorem dX1_takenFrom_54 : decode cX1_takenFrom 54 = .ok (.istore 6, 2) := by decide +kernel
theorem dX1_takenFrom_56 : decode cX1_takenFrom 56 = .ok (.iload 6, 2) := by decide +kernel
theorem dX1_takenFrom_58 : decode cX1_takenFrom 58 = .ok (.iconst (-1), 1) := by decide +kernel
theorem dX1_takenFrom_59 : decode cX1_takenFrom 59 = .ok (.if_icmp .ne 6, 3) := by decide +kernel
theorem dX1_takenFrom_62 : decode cX1_takenFrom 62 = .ok (.goto 18, 3) := by decide +kernel
theorem dX1_takenFrom_65 : decode cX1_takenFrom 65 = .ok (.iload 4, 2) := by decide +kernel
theorem dX1_takenFrom_67 : decode cX1_takenFrom 67 = .ok (.iconst 1, 1) := by decide +kernel
theorem dX1_takenFrom_68 : decode cX1_takenFrom 68 = .ok (.iload 6, 2) := by decide +kernel
theorem dX1_takenFrom_70 : decode cX1_takenFrom 70 = .ok (.ishl, 1) := by decide +kernel
theorem dX1_takenFrom_71 : decode cX1_takenFrom 71 = .ok (.ior, 1) := by decide +kernel
theorem dX1_takenFrom_72 : decode cX1_takenFrom 72 = .ok (.istore 4, 2) := by decide +kernel
theorem dX1_takenFrom_74 : decode cX1_takenFrom 74 = .ok (.iinc 5 1, 3) := by decide +kernel
theorem dX1_takenFrom_77 : decode cX1_takenFrom 77 = .ok (.goto (-39), 3) := by decide +kernel
theorem dX1_takenFrom_80 : decode cX1_takenFrom 80 = .ok (.iload 4, 2) := by decide +kernel
theorem dX1_takenFrom_82 : decode cX1_takenFrom 82 = .ok (.ireturn, 1) := by decide +kernel
set_option maxRecDepth 20000 in
theorem ggX1_bestOf_X1_hasBeast : GoodIn wsX1_bestOf wsX1_hasBeast := goodIn_r _ [8, 2, 9, 10, 11, 12, 13, 14, 15, 16, 17, 18, 19, 20, 21, 22, 23, 24, 25] (by decide +kernel) (by decide +kernel)
set_option maxRecDepth 20000 in
theorem gX1_bestOf_X1_hasBeast : GoodIn wsX1_bestOf (wsV RX1 78 RX1 yX1_hasBeast wsX1_hasBeast) := goodIn_app (goodIn_of _ (by decide +kernel)) ggX1_bestOf_X1_hasBeast
theorem dX1_bestOf_0 : decode cX1_bestOf 0 = .ok (.iconst (-1), 1) := by decide +kernel
theorem dX1_bestOf_1 : decode cX1_bestOf 1 = .ok (.istore_n 2, 1) := by decide +kernel
theorem dX1_bestOf_2 : decode cX1_bestOf 2 = .ok (.aload_n 0, 1) := by decide +kernel
theorem dX1_bestOf_3 : decode cX1_bestOf 3 = .ok (.getfield 21, 3) := by decide +kernel
theorem dX1_bestOf_6 : decode cX1_bestOf 6 = .ok (.iconst 1, 1) := by decide +kernel
theorem dX1_bestOf_7 : decode cX1_bestOf 7 = .ok (.isub, 1) := by decide +kernel
theorem dX1_bestOf_8 : decode cX1_bestOf 8 = .ok (.istore_n 3, 1) := by decide +kernel
theorem dX1_bestOf_9 : decode cX1_bestOf 9 = .ok (.iconst 0, 1) := by decide +kernel
theorem dX1_bestOf_10 : decode cX1_bestOf 10 = .ok (.istore 4, 2) := by decide +kernel
theorem dX1_bestOf_12 : decode cX1_bestOf 12 = .ok (.iload 4, 2) := by decide +kernel
theorem dX1_bestOf_14 : decode cX1_bestOf 14 = .ok (.aload_n 0, 1) := by decide +kernel
theorem dX1_bestOf_15 : decode cX1_bestOf 15 = .ok (.getfield 41, 3) := by decide +kernel
theorem dX1_bestOf_18 : decode cX1_bestOf 18 = .ok (.if_icmp .ge 50, 3) := by decide +kernel
theorem dX1_bestOf_21 : decode cX1_bestOf 21 = .ok (.iload_n 1, 1) := by decide +kernel
theorem dX1_bestOf_22 : decode cX1_bestOf 22 = .ok (.iload 4, 2) := by decide +kernel
theorem dX1_bestOf_24 : decode cX1_bestOf 24 = .ok (.ishr, 1) := by decide +kernel
theorem dX1_bestOf_25 : decode cX1_bestOf 25 = .ok (.iconst 1, 1) := by decide +kernel
theorem dX1_bestOf_26 : decode cX1_bestOf 26 = .ok (.iand, 1) := by decide +kernel
theorem dX1_bestOf_27 : decode cX1_bestOf 27 = .ok (.iconst 1, 1) := by decide +kernel
theorem dX1_bestOf_28 : decode cX1_bestOf 28 = .ok (.if_icmp .ne 34, 3) := by decide +kernel
theorem dX1_bestOf_31 : decode cX1_bestOf 31 = .ok (.aload_n 0, 1) := by decide +kernel
theorem dX1_bestOf_32 : decode cX1_bestOf 32 = .ok (.iload 4, 2) := by decide +kernel
theorem dX1_bestOf_34 : decode cX1_bestOf 34 = .ok (.invokevirtual 78, 3) := by decide +kernel
theorem dX1_bestOf_37 : decode cX1_bestOf 37 = .ok (.ifCond .eq 25, 3) := by decide +kernel
theorem dX1_bestOf_40 : decode cX1_bestOf 40 = .ok (.aload_n 0, 1) := by decide +kernel
theorem dX1_bestOf_41 : decode cX1_bestOf 41 = .ok (.getfield 44, 3) := by decide +kernel
theorem dX1_bestOf_44 : decode cX1_bestOf 44 = .ok (.iload 4, 2) := by decide +kernel
theorem dX1_bestOf_46 : decode cX1_bestOf 46 = .ok (.iaload, 1) := by decide +kernel
theorem dX1_bestOf_47 : decode cX1_bestOf 47 = .ok (.iload_n 3, 1) := by decide +kernel
theorem dX1_bestOf_48 : decode cX1_bestOf 48 = .ok (.if_icmp .le 14, 3) := by decide +kernel
theorem dX1_bestOf_51 : decode cX1_bestOf 51 = .ok (.iload 4, 2) := by decide +kernel
theorem dX1_bestOf_53 : decode cX1_bestOf 53 = .ok (.istore_n 2, 1) := by decide +kernel
theorem dX1_bestOf_54 : decode cX1_bestOf 54 = .ok (.aload_n 0, 1) := by decide +kernel
theorem dX1_bestOf_55 : decode cX1_bestOf 55 = .ok (.getfield 44, 3) := by decide +kernel
theorem dX1_bestOf_58 : decode cX1_bestOf 58 = .ok (.iload 4, 2) := by decide +kernel
theorem dX1_bestOf_60 : decode cX1_bestOf 60 = .ok (.iaload, 1) := by decide +kernel
theorem dX1_bestOf_61 : decode cX1_bestOf 61 = .ok (.istore_n 3, 1) := by decide +kernel
theorem dX1_bestOf_62 : decode cX1_bestOf 62 = .ok (.iinc 4 1, 3) := by decide +kernel
theorem dX1_bestOf_65 : decode cX1_bestOf 65 = .ok (.goto (-53), 3) := by decide +kernel
theorem dX1_bestOf_68 : decode cX1_bestOf 68 = .ok (.iload_n 2, 1) := by decide +kernel
theorem dX1_bestOf_69 : decode cX1_bestOf 69 = .ok (.ireturn, 1) := by decide +kernel
set_option maxRecDepth 20000 in
theorem ggX1_lossOf_X1_isAlive : GoodIn wsX1_lossOf wsX1_isAlive := goodIn_r _ [5, 6, 7, 8, 9, 4, 10, 11, 63, 64, 65, 66, 67, 68, 69, 70, 71, 72, 73, 74, 75, 76, 77, 78, 79] (by decide +kernel) (by decide +kernel)
set_option maxRecDepth 20000 in
theorem gX1_lossOf_X1_isAlive : GoodIn wsX1_lossOf (wsV RX1 75 RX1 yX1_isAlive wsX1_isAlive) := goodIn_app (goodIn_of _ (by decide +kernel)) ggX1_lossOf_X1_isAlive
set_option maxRecDepth 20000 in
theorem ggX1_lossOf_X1_heldBits : GoodIn wsX1_lossOf wsX1_heldBits := goodIn_r _ [15, 16, 17, 18, 4, 19, 20, 21, 22, 23, 24, 25, 26, 27, 28, 29, 30, 31, 32, 33, 63, 64, 65, 66, 67, 68, 69, 70, 71, 72, 73, 74, 75, 76, 77, 78, 79] (by decide +kernel) (by decide +kernel)
set_option maxRecDepth 20000 in
theorem gX1_lossOf_X1_heldBits : GoodIn wsX1_lossOf (wsV RX1 112 RX1 yX1_heldBits wsX1_heldBits) := goodIn_app (goodIn_of _ (by decide +kernel)) ggX1_lossOf_X1_heldBits
set_option maxRecDepth 20000 in
theorem ggX1_lossOf_X1_takenFrom : GoodIn wsX1_lossOf wsX1_takenFrom := goodIn_r _ [37, 38, 7, 8, 9, 4, 10, 11, 39, 40, 41, 42, 43, 44, 45, 46, 47, 48, 49, 50, 51, 52, 53, 54, 55, 56, 57, 21, 58, 30, 31, 32, 33, 63, 64, 65, 66, 67, 68, 69, 70, 71, 72, 73, 74, 75, 76, 77, 78, 79] (by decide +kernel) (by decide +kernel)
set_option maxRecDepth 20000 in
theorem gX1_lossOf_X1_takenFrom : GoodIn wsX1_lossOf (wsV RX1 115 RX1 yX1_takenFrom wsX1_takenFrom) := goodIn_app (goodIn_of _ (by decide +kernel)) ggX1_lossOf_X1_takenFrom
set_option maxRecDepth 20000 in
theorem ggX1_lossOf_X1_worthOf : GoodIn wsX1_lossOf wsX1_worthOf := goodIn_r _ [62, 21, 58, 30, 31, 32, 4, 33, 63, 64, 65, 66, 67, 68, 69, 70, 71, 72, 73, 74, 75, 76, 77, 78, 79] (by decide +kernel) (by decide +kernel)
set_option maxRecDepth 20000 in
theorem gX1_lossOf_X1_worthOf : GoodIn wsX1_lossOf (wsV RX1 118 RX1 yX1_worthOf wsX1_worthOf) := goodIn_app (goodIn_of _ (by decide +kernel)) ggX1_lossOf_X1_worthOf
theorem dX1_lossOf_0 : decode cX1_lossOf 0 = .ok (.aload_n 0, 1) := by decide +kernel
theorem dX1_lossOf_1 : decode cX1_lossOf 1 = .ok (.iload_n 1, 1) := by decide +kernel
theorem dX1_lossOf_2 : decode cX1_lossOf 2 = .ok (.invokevirtual 75, 3) := by decide +kernel
theorem dX1_lossOf_5 : decode cX1_lossOf 5 = .ok (.ifCond .eq 20, 3) := by decide +kernel
theorem dX1_lossOf_8 : decode cX1_lossOf 8 = .ok (.aload_n 0, 1) := by decide +kernel
theorem dX1_lossOf_9 : decode cX1_lossOf 9 = .ok (.aload_n 0, 1) := by decide +kernel
theorem dX1_lossOf_10 : decode cX1_lossOf 10 = .ok (.iload_n 1, 1) := by decide +kernel
theorem dX1_lossOf_11 : decode cX1_lossOf 11 = .ok (.aload_n 0, 1) := by decide +kernel
theorem dX1_lossOf_12 : decode cX1_lossOf 12 = .ok (.iload_n 1, 1) := by decide +kernel
theorem dX1_lossOf_13 : decode cX1_lossOf 13 = .ok (.invokevirtual 112, 3) := by decide +kernel
theorem dX1_lossOf_16 : decode cX1_lossOf 16 = .ok (.invokevirtual 115, 3) := by decide +kernel
theorem dX1_lossOf_19 : decode cX1_lossOf 19 = .ok (.invokevirtual 118, 3) := by decide +kernel
theorem dX1_lossOf_22 : decode cX1_lossOf 22 = .ok (.goto 4, 3) := by decide +kernel
theorem dX1_lossOf_25 : decode cX1_lossOf 25 = .ok (.iconst 0, 1) := by decide +kernel
theorem dX1_lossOf_26 : decode cX1_lossOf 26 = .ok (.ireturn, 1) := by decide +kernel
set_option maxRecDepth 20000 in
theorem ggX1_worthOf_X1_hasBeast : GoodIn wsX1_worthOf wsX1_hasBeast := goodIn_r _ [7, 1, 8, 9, 10, 11, 12, 13, 14, 15, 16, 17, 18, 19, 20, 21, 22, 23, 24] (by decide +kernel) (by decide +kernel)
set_option maxRecDepth 20000 in
theorem gX1_worthOf_X1_hasBeast : GoodIn wsX1_worthOf (wsV RX1 78 RX1 yX1_hasBeast wsX1_hasBeast) := goodIn_app (goodIn_of _ (by decide +kernel)) ggX1_worthOf_X1_hasBeast
theorem dX1_worthOf_0 : decode cX1_worthOf 0 = .ok (.iconst 0, 1) := by decide +kernel
theorem dX1_worthOf_1 : decode cX1_worthOf 1 = .ok (.istore_n 2, 1) := by decide +kernel
theorem dX1_worthOf_2 : decode cX1_worthOf 2 = .ok (.iconst 0, 1) := by decide +kernel
theorem dX1_worthOf_3 : decode cX1_worthOf 3 = .ok (.istore_n 3, 1) := by decide +kernel
theorem dX1_worthOf_4 : decode cX1_worthOf 4 = .ok (.iload_n 3, 1) := by decide +kernel
theorem dX1_worthOf_5 : decode cX1_worthOf 5 = .ok (.aload_n 0, 1) := by decide +kernel
theorem dX1_worthOf_6 : decode cX1_worthOf 6 = .ok (.getfield 41, 3) := by decide +kernel
theorem dX1_worthOf_9 : decode cX1_worthOf 9 = .ok (.if_icmp .ge 35, 3) := by decide +kernel
theorem dX1_worthOf_12 : decode cX1_worthOf 12 = .ok (.iload_n 1, 1) := by decide +kernel
theorem dX1_worthOf_13 : decode cX1_worthOf 13 = .ok (.iload_n 3, 1) := by decide +kernel
theorem dX1_worthOf_14 : decode cX1_worthOf 14 = .ok (.ishr, 1) := by decide +kernel
theorem dX1_worthOf_15 : decode cX1_worthOf 15 = .ok (.iconst 1, 1) := by decide +kernel
theorem dX1_worthOf_16 : decode cX1_worthOf 16 = .ok (.iand, 1) := by decide +kernel
theorem dX1_worthOf_17 : decode cX1_worthOf 17 = .ok (.iconst 1, 1) := by decide +kernel
theorem dX1_worthOf_18 : decode cX1_worthOf 18 = .ok (.if_icmp .ne 20, 3) := by decide +kernel
theorem dX1_worthOf_21 : decode cX1_worthOf 21 = .ok (.aload_n 0, 1) := by decide +kernel
theorem dX1_worthOf_22 : decode cX1_worthOf 22 = .ok (.iload_n 3, 1) := by decide +kernel
theorem dX1_worthOf_23 : decode cX1_worthOf 23 = .ok (.invokevirtual 78, 3) := by decide +kernel
theorem dX1_worthOf_26 : decode cX1_worthOf 26 = .ok (.ifCond .eq 12, 3) := by decide +kernel
theorem dX1_worthOf_29 : decode cX1_worthOf 29 = .ok (.iload_n 2, 1) := by decide +kernel
theorem dX1_worthOf_30 : decode cX1_worthOf 30 = .ok (.aload_n 0, 1) := by decide +kernel
theorem dX1_worthOf_31 : decode cX1_worthOf 31 = .ok (.getfield 44, 3) := by decide +kernel
theorem dX1_worthOf_34 : decode cX1_worthOf 34 = .ok (.iload_n 3, 1) := by decide +kernel
theorem dX1_worthOf_35 : decode cX1_worthOf 35 = .ok (.iaload, 1) := by decide +kernel
theorem dX1_worthOf_36 : decode cX1_worthOf 36 = .ok (.iadd, 1) := by decide +kernel
theorem dX1_worthOf_37 : decode cX1_worthOf 37 = .ok (.istore_n 2, 1) := by decide +kernel
theorem dX1_worthOf_38 : decode cX1_worthOf 38 = .ok (.iinc 3 1, 3) := by decide +kernel
theorem dX1_worthOf_41 : decode cX1_worthOf 41 = .ok (.goto (-37), 3) := by decide +kernel
theorem dX1_worthOf_44 : decode cX1_worthOf 44 = .ok (.iload_n 2, 1) := by decide +kernel
theorem dX1_worthOf_45 : decode cX1_worthOf 45 = .ok (.ireturn, 1) := by decide +kernel
set_option maxRecDepth 20000 in
theorem ggX1_bury_X1_isAlive : GoodIn wsX1_bury wsX1_isAlive := goodIn_r _ [10, 4, 11, 12, 13, 9, 14, 15, 69, 70, 71, 72, 73, 74, 75, 76, 77, 78, 79, 80, 81, 82, 83, 84, 85] (by decide +kernel) (by decide +kernel)
set_option maxRecDepth 20000 in
theorem gX1_bury_X1_isAlive : GoodIn wsX1_bury (wsV RX1 75 RX1 yX1_isAlive wsX1_isAlive) := goodIn_app (goodIn_of _ (by decide +kernel)) ggX1_bury_X1_isAlive
set_option maxRecDepth 20000 in
theorem ggX1_bury_X1_heldBits : GoodIn wsX1_bury wsX1_heldBits := goodIn_r _ [19, 20, 21, 22, 9, 23, 24, 2, 25, 26, 27, 28, 29, 30, 31, 3, 32, 33, 34, 35, 69, 70, 71, 72, 73, 74, 75, 76, 77, 78, 79, 80, 81, 82, 83, 84, 85] (by decide +kernel) (by decide +kernel)
set_option maxRecDepth 20000 in
theorem gX1_bury_X1_heldBits : GoodIn wsX1_bury (wsV RX1 112 RX1 yX1_heldBits wsX1_heldBits) := goodIn_app (goodIn_of _ (by decide +kernel)) ggX1_bury_X1_heldBits
set_option maxRecDepth 20000 in
theorem ggX1_bury_X1_takenFrom : GoodIn wsX1_bury wsX1_takenFrom := goodIn_r _ [39, 40, 11, 12, 13, 9, 14, 15, 41, 42, 43, 44, 45, 46, 47, 48, 49, 50, 51, 52, 53, 54, 55, 56, 57, 58, 59, 2, 60, 32, 33, 34, 35, 69, 70, 71, 72, 73, 74, 75, 76, 77, 78, 79, 80, 81, 82, 83, 84, 85] (by decide +kernel) (by decide +kernel)
set_option maxRecDepth 20000 in
theorem gX1_bury_X1_takenFrom : GoodIn wsX1_bury (wsV RX1 115 RX1 yX1_takenFrom wsX1_takenFrom) := goodIn_app (goodIn_of _ (by decide +kernel)) ggX1_bury_X1_takenFrom
set_option maxRecDepth 20000 in
theorem ggX1_bury_X1_worthOf : GoodIn wsX1_bury wsX1_worthOf := goodIn_r _ [64, 2, 60, 32, 33, 34, 9, 35, 69, 70, 71, 72, 73, 74, 75, 76, 77, 78, 79, 80, 81, 82, 83, 84, 85] (by decide +kernel) (by decide +kernel)
set_option maxRecDepth 20000 in
theorem gX1_bury_X1_worthOf : GoodIn wsX1_bury (wsV RX1 118 RX1 yX1_worthOf wsX1_worthOf) := goodIn_app (goodIn_of _ (by decide +kernel)) ggX1_bury_X1_worthOf
set_option maxRecDepth 20000 in
theorem ggX1_bury_X1_putTo : GoodIn wsX1_bury wsX1_putTo := goodIn_r _ [68, 3, 25, 27, 32, 33, 34, 9, 35, 2, 69, 70, 71, 72, 73, 74, 75, 76, 77, 78, 79, 80, 81, 82, 83, 84, 85] (by decide +kernel) (by decide +kernel)
set_option maxRecDepth 20000 in
theorem gX1_bury_X1_putTo : GoodIn wsX1_bury (wsV RX1 81 RX1 yX1_putTo wsX1_putTo) := goodIn_app (goodIn_of _ (by decide +kernel)) ggX1_bury_X1_putTo
set_option maxRecDepth 20000 in
theorem ggX1_bury_X1_hasBeast : GoodIn wsX1_bury wsX1_hasBeast := goodIn_r _ [35, 2, 69, 70, 71, 72, 73, 74, 75, 76, 77, 78, 79, 80, 81, 82, 83, 84, 85] (by decide +kernel) (by decide +kernel)
set_option maxRecDepth 20000 in
theorem gX1_bury_X1_hasBeast : GoodIn wsX1_bury (wsV RX1 78 RX1 yX1_hasBeast wsX1_hasBeast) := goodIn_app (goodIn_of _ (by decide +kernel)) ggX1_bury_X1_hasBeast
theorem dX1_bury_0 : decode cX1_bury 0 = .ok (.aload_n 0, 1) := by decide +kernel
theorem dX1_bury_1 : decode cX1_bury 1 = .ok (.iload_n 1, 1) := by decide +kernel
theorem dX1_bury_2 : decode cX1_bury 2 = .ok (.invokevirtual 75, 3) := by decide +kernel
theorem dX1_bury_5 : decode cX1_bury 5 = .ok (.ifCond .ne 5, 3) := by decide +kernel
theorem dX1_bury_8 : decode cX1_bury 8 = .ok (.iconst 0, 1) := by decide +kernel
theorem dX1_bury_9 : decode cX1_bury 9 = .ok (.ireturn, 1) := by decide +kernel
theorem dX1_bury_10 : decode cX1_bury 10 = .ok (.aload_n 0, 1) := by decide +kernel
theorem dX1_bury_11 : decode cX1_bury 11 = .ok (.iload_n 1, 1) := by decide +kernel
theorem dX1_bury_12 : decode cX1_bury 12 = .ok (.aload_n 0, 1) := by decide +kernel
theorem dX1_bury_13 : decode cX1_bury 13 = .ok (.iload_n 1, 1) := by decide +kernel
theorem dX1_bury_14 : decode cX1_bury 14 = .ok (.invokevirtual 112, 3) := by decide +kernel
theorem dX1_bury_17 : decode cX1_bury 17 = .ok (.invokevirtual 115, 3) := by decide +kernel
theorem dX1_bury_20 : decode cX1_bury 20 = .ok (.istore_n 2, 1) := by decide +kernel
theorem dX1_bury_21 : decode cX1_bury 21 = .ok (.aload_n 0, 1) := by decide +kernel
theorem dX1_bury_22 : decode cX1_bury 22 = .ok (.iload_n 2, 1) := by decide +kernel
theorem dX1_bury_23 : decode cX1_bury 23 = .ok (.invokevirtual 118, 3) := by decide +kernel
theorem dX1_bury_26 : decode cX1_bury 26 = .ok (.istore_n 3, 1) := by decide +kernel
theorem dX1_bury_27 : decode cX1_bury 27 = .ok (.aload_n 0, 1) := by decide +kernel
theorem dX1_bury_28 : decode cX1_bury 28 = .ok (.aload_n 0, 1) := by decide +kernel
theorem dX1_bury_29 : decode cX1_bury 29 = .ok (.getfield 34, 3) := by decide +kernel
theorem dX1_bury_32 : decode cX1_bury 32 = .ok (.iload_n 1, 1) := by decide +kernel
theorem dX1_bury_33 : decode cX1_bury 33 = .ok (.iaload, 1) := by decide +kernel
theorem dX1_bury_34 : decode cX1_bury 34 = .ok (.invokevirtual 75, 3) := by decide +kernel
theorem dX1_bury_37 : decode cX1_bury 37 = .ok (.ifCond .eq 12, 3) := by decide +kernel
theorem dX1_bury_40 : decode cX1_bury 40 = .ok (.aload_n 0, 1) := by decide +kernel
theorem dX1_bury_41 : decode cX1_bury 41 = .ok (.getfield 34, 3) := by decide +kernel
theorem dX1_bury_44 : decode cX1_bury 44 = .ok (.iload_n 1, 1) := by decide +kernel
theorem dX1_bury_45 : decode cX1_bury 45 = .ok (.iaload, 1) := by decide +kernel
theorem dX1_bury_46 : decode cX1_bury 46 = .ok (.goto 4, 3) := by decide +kernel
theorem dX1_bury_49 : decode cX1_bury 49 = .ok (.iconst (-1), 1) := by decide +kernel
theorem dX1_bury_50 : decode cX1_bury 50 = .ok (.istore 4, 2) := by decide +kernel
theorem dX1_bury_52 : decode cX1_bury 52 = .ok (.iconst 0, 1) := by decide +kernel
theorem dX1_bury_53 : decode cX1_bury 53 = .ok (.istore 5, 2) := by decide +kernel
theorem dX1_bury_55 : decode cX1_bury 55 = .ok (.iload 5, 2) := by decide +kernel
theorem dX1_bury_57 : decode cX1_bury 57 = .ok (.aload_n 0, 1) := by decide +kernel
theorem dX1_bury_58 : decode cX1_bury 58 = .ok (.getfield 41, 3) := by decide +kernel
theorem dX1_bury_61 : decode cX1_bury 61 = .ok (.if_icmp .ge 57, 3) := by decide +kernel
theorem dX1_bury_64 : decode cX1_bury 64 = .ok (.iload_n 2, 1) := by decide +kernel
theorem dX1_bury_65 : decode cX1_bury 65 = .ok (.iload 5, 2) := by decide +kernel
theorem dX1_bury_67 : decode cX1_bury 67 = .ok (.ishr, 1) := by decide +kernel
theorem dX1_bury_68 : decode cX1_bury 68 = .ok (.iconst 1, 1) := by decide +kernel
theorem dX1_bury_69 : decode cX1_bury 69 = .ok (.iand, 1) := by decide +kernel
theorem dX1_bury_70 : decode cX1_bury 70 = .ok (.iconst 1, 1) := by decide +kernel
theorem dX1_bury_71 : decode cX1_bury 71 = .ok (.if_icmp .ne 13, 3) := by decide +kernel
theorem dX1_bury_74 : decode cX1_bury 74 = .ok (.aload_n 0, 1) := by decide +kernel
theorem dX1_bury_75 : decode cX1_bury 75 = .ok (.iload 5, 2) := by decide +kernel
theorem dX1_bury_77 : decode cX1_bury 77 = .ok (.iconst (-1), 1) := by decide +kernel
theorem dX1_bury_78 : decode cX1_bury 78 = .ok (.invokevirtual 81, 3) := by decide +kernel
theorem dX1_bury_81 : decode cX1_bury 81 = .ok (.goto 31, 3) := by decide +kernel
theorem dX1_bury_84 : decode cX1_bury 84 = .ok (.aload_n 0, 1) := by decide +kernel
theorem dX1_bury_85 : decode cX1_bury 85 = .ok (.iload 5, 2) := by decide +kernel
theorem dX1_bury_87 : decode cX1_bury 87 = .ok (.invokevirtual 78, 3) := by decide +kernel
theorem dX1_bury_90 : decode cX1_bury 90 = .ok (.ifCond .eq 22, 3) := by decide +kernel
theorem dX1_bury_93 : decode cX1_bury 93 = .ok (.aload_n 0, 1) := by decide +kernel
theorem dX1_bury_94 : decode cX1_bury 94 = .ok (.getfield 47, 3) := by decide +kernel
theorem dX1_bury_97 : decode cX1_bury 97 = .ok (.iload 5, 2) := by decide +kernel
theorem dX1_bury_99 : decode cX1_bury 99 = .ok (.iaload, 1) := by decide +kernel
theorem dX1_bury_100 : decode cX1_bury 100 = .ok (.iload_n 1, 1) := by decide +kernel
theorem dX1_bury_101 : decode cX1_bury 101 = .ok (.if_icmp .ne 11, 3) := by decide +kernel
theorem dX1_bury_104 : decode cX1_bury 104 = .ok (.aload_n 0, 1) := by decide +kernel
theorem dX1_bury_105 : decode cX1_bury 105 = .ok (.iload 5, 2) := by decide +kernel
theorem dX1_bury_107 : decode cX1_bury 107 = .ok (.iload 4, 2) := by decide +kernel
theorem dX1_bury_109 : decode cX1_bury 109 = .ok (.invokevirtual 81, 3) := by decide +kernel
theorem dX1_bury_112 : decode cX1_bury 112 = .ok (.iinc 5 1, 3) := by decide +kernel
theorem dX1_bury_115 : decode cX1_bury 115 = .ok (.goto (-60), 3) := by decide +kernel
theorem dX1_bury_118 : decode cX1_bury 118 = .ok (.aload_n 0, 1) := by decide +kernel
theorem dX1_bury_119 : decode cX1_bury 119 = .ok (.getfield 37, 3) := by decide +kernel
theorem dX1_bury_122 : decode cX1_bury 122 = .ok (.iload_n 1, 1) := by decide +kernel
theorem dX1_bury_123 : decode cX1_bury 123 = .ok (.iconst 0, 1) := by decide +kernel
theorem dX1_bury_124 : decode cX1_bury 124 = .ok (.bastore, 1) := by decide +kernel
theorem dX1_bury_125 : decode cX1_bury 125 = .ok (.aload_n 0, 1) := by decide +kernel
theorem dX1_bury_126 : decode cX1_bury 126 = .ok (.dup, 1) := by decide +kernel
theorem dX1_bury_127 : decode cX1_bury 127 = .ok (.getfield 62, 3) := by decide +kernel
theorem dX1_bury_130 : decode cX1_bury 130 = .ok (.iload_n 3, 1) := by decide +kernel
theorem dX1_bury_131 : decode cX1_bury 131 = .ok (.iadd, 1) := by decide +kernel
theorem dX1_bury_132 : decode cX1_bury 132 = .ok (.putfield 62, 3) := by decide +kernel
theorem dX1_bury_135 : decode cX1_bury 135 = .ok (.iload_n 3, 1) := by decide +kernel
theorem dX1_bury_136 : decode cX1_bury 136 = .ok (.ireturn, 1) := by decide +kernel
set_option maxRecDepth 20000 in
theorem ggX1_fewestToBeSafe_X1_ownBits : GoodIn wsX1_fewestToBeSafe wsX1_ownBits := goodIn_r _ [5, 6, 7, 8, 9, 10, 4, 11, 61, 62, 63, 64, 65, 66, 67, 68, 69, 70, 71, 72, 73, 74, 75, 76, 77] (by decide +kernel) (by decide +kernel)
set_option maxRecDepth 20000 in
theorem gX1_fewestToBeSafe_X1_ownBits : GoodIn wsX1_fewestToBeSafe (wsV RX1 99 RX1 yX1_ownBits wsX1_ownBits) := goodIn_app (goodIn_of _ (by decide +kernel)) ggX1_fewestToBeSafe_X1_ownBits
set_option maxRecDepth 20000 in
theorem ggX1_fewestToBeSafe_X1_heldBits : GoodIn wsX1_fewestToBeSafe wsX1_heldBits := goodIn_r _ [15, 16, 17, 18, 4, 19, 20, 6, 21, 22, 23, 1, 2, 3, 5, 7, 8, 9, 10, 11, 61, 62, 63, 64, 65, 66, 67, 68, 69, 70, 71, 72, 73, 74, 75, 76, 77] (by decide +kernel) (by decide +kernel)
set_option maxRecDepth 20000 in
theorem gX1_fewestToBeSafe_X1_heldBits : GoodIn wsX1_fewestToBeSafe (wsV RX1 112 RX1 yX1_heldBits wsX1_heldBits) := goodIn_app (goodIn_of _ (by decide +kernel)) ggX1_fewestToBeSafe_X1_heldBits
set_option maxRecDepth 20000 in
theorem ggX1_fewestToBeSafe_X1_takenFrom : GoodIn wsX1_fewestToBeSafe wsX1_takenFrom := goodIn_r _ [27, 28, 29, 30, 31, 4, 32, 33, 34, 35, 36, 37, 38, 39, 40, 41, 42, 43, 44, 45, 46, 47, 48, 49, 50, 51, 52, 6, 53, 8, 9, 10, 11, 61, 62, 63, 64, 65, 66, 67, 68, 69, 70, 71, 72, 73, 74, 75, 76, 77] (by decide +kernel) (by decide +kernel)
set_option maxRecDepth 20000 in
theorem gX1_fewestToBeSafe_X1_takenFrom : GoodIn wsX1_fewestToBeSafe (wsV RX1 115 RX1 yX1_takenFrom wsX1_takenFrom) := goodIn_app (goodIn_of _ (by decide +kernel)) ggX1_fewestToBeSafe_X1_takenFrom
set_option maxRecDepth 20000 in
theorem ggX1_fewestToBeSafe_J6_bitCount_0f7a4 : GoodIn wsX1_fewestToBeSafe wsJ6_bitCount_0f7a4 := goodIn_r _ [57, 58, 59, 60] (by decide +kernel) (by decide +kernel)
set_option maxRecDepth 20000 in
theorem gX1_fewestToBeSafe_J6_bitCount_0f7a4 : GoodIn wsX1_fewestToBeSafe (va_wsS RX1 121 yJ6_bitCount_0f7a4 wsJ6_bitCount_0f7a4) := goodIn_app (goodIn_of _ (by decide +kernel)) ggX1_fewestToBeSafe_J6_bitCount_0f7a4
theorem dX1_fewestToBeSafe_0 : decode cX1_fewestToBeSafe 0 = .ok (.aload_n 0, 1) := by decide +kernel
theorem dX1_fewestToBeSafe_1 : decode cX1_fewestToBeSafe 1 = .ok (.iload_n 1, 1) := by decide +kernel
theorem dX1_fewestToBeSafe_2 : decode cX1_fewestToBeSafe 2 = .ok (.invokevirtual 99, 3) := by decide +kernel
theorem dX1_fewestToBeSafe_5 : decode cX1_fewestToBeSafe 5 = .ok (.istore_n 2, 1) := by decide +kernel
theorem dX1_fewestToBeSafe_6 : decode cX1_fewestToBeSafe 6 = .ok (.aload_n 0, 1) := by decide +kernel
theorem dX1_fewestToBeSafe_7 : decode cX1_fewestToBeSafe 7 = .ok (.iload_n 1, 1) := by decide +kernel
theorem dX1_fewestToBeSafe_8 : decode cX1_fewestToBeSafe 8 = .ok (.invokevirtual 112, 3) := by decide +kernel
theorem dX1_fewestToBeSafe_11 : decode cX1_fewestToBeSafe 11 = .ok (.istore_n 3, 1) := by decide +kernel
theorem dX1_fewestToBeSafe_12 : decode cX1_fewestToBeSafe 12 = .ok (.iconst (-1), 1) := by decide +kernel
theorem dX1_fewestToBeSafe_13 : decode cX1_fewestToBeSafe 13 = .ok (.istore 4, 2) := by decide +kernel
theorem dX1_fewestToBeSafe_15 : decode cX1_fewestToBeSafe 15 = .ok (.iconst 0, 1) := by decide +kernel
theorem dX1_fewestToBeSafe_16 : decode cX1_fewestToBeSafe 16 = .ok (.istore 5, 2) := by decide +kernel
theorem dX1_fewestToBeSafe_18 : decode cX1_fewestToBeSafe 18 = .ok (.iload 5, 2) := by decide +kernel
theorem dX1_fewestToBeSafe_20 : decode cX1_fewestToBeSafe 20 = .ok (.iload_n 2, 1) := by decide +kernel
theorem dX1_fewestToBeSafe_21 : decode cX1_fewestToBeSafe 21 = .ok (.if_icmp .gt 58, 3) := by decide +kernel
theorem dX1_fewestToBeSafe_24 : decode cX1_fewestToBeSafe 24 = .ok (.iload 5, 2) := by decide +kernel
theorem dX1_fewestToBeSafe_26 : decode cX1_fewestToBeSafe 26 = .ok (.iload_n 2, 1) := by decide +kernel
theorem dX1_fewestToBeSafe_27 : decode cX1_fewestToBeSafe 27 = .ok (.iconst (-1), 1) := by decide +kernel
theorem dX1_fewestToBeSafe_28 : decode cX1_fewestToBeSafe 28 = .ok (.ixor, 1) := by decide +kernel
theorem dX1_fewestToBeSafe_29 : decode cX1_fewestToBeSafe 29 = .ok (.iand, 1) := by decide +kernel
theorem dX1_fewestToBeSafe_30 : decode cX1_fewestToBeSafe 30 = .ok (.ifCond .ne 43, 3) := by decide +kernel
theorem dX1_fewestToBeSafe_33 : decode cX1_fewestToBeSafe 33 = .ok (.aload_n 0, 1) := by decide +kernel
theorem dX1_fewestToBeSafe_34 : decode cX1_fewestToBeSafe 34 = .ok (.iload_n 1, 1) := by decide +kernel
theorem dX1_fewestToBeSafe_35 : decode cX1_fewestToBeSafe 35 = .ok (.iload_n 3, 1) := by decide +kernel
theorem dX1_fewestToBeSafe_36 : decode cX1_fewestToBeSafe 36 = .ok (.iload 5, 2) := by decide +kernel
theorem dX1_fewestToBeSafe_38 : decode cX1_fewestToBeSafe 38 = .ok (.iconst (-1), 1) := by decide +kernel
theorem dX1_fewestToBeSafe_39 : decode cX1_fewestToBeSafe 39 = .ok (.ixor, 1) := by decide +kernel
theorem dX1_fewestToBeSafe_40 : decode cX1_fewestToBeSafe 40 = .ok (.iand, 1) := by decide +kernel
theorem dX1_fewestToBeSafe_41 : decode cX1_fewestToBeSafe 41 = .ok (.invokevirtual 115, 3) := by decide +kernel
theorem dX1_fewestToBeSafe_44 : decode cX1_fewestToBeSafe 44 = .ok (.ifCond .eq 6, 3) := by decide +kernel
theorem dX1_fewestToBeSafe_47 : decode cX1_fewestToBeSafe 47 = .ok (.goto 26, 3) := by decide +kernel
theorem dX1_fewestToBeSafe_50 : decode cX1_fewestToBeSafe 50 = .ok (.iload 4, 2) := by decide +kernel
theorem dX1_fewestToBeSafe_52 : decode cX1_fewestToBeSafe 52 = .ok (.iconst (-1), 1) := by decide +kernel
theorem dX1_fewestToBeSafe_53 : decode cX1_fewestToBeSafe 53 = .ok (.if_icmp .eq 16, 3) := by decide +kernel
theorem dX1_fewestToBeSafe_56 : decode cX1_fewestToBeSafe 56 = .ok (.iload 5, 2) := by decide +kernel
theorem dX1_fewestToBeSafe_58 : decode cX1_fewestToBeSafe 58 = .ok (.invokestatic 121, 3) := by decide +kernel
theorem dX1_fewestToBeSafe_61 : decode cX1_fewestToBeSafe 61 = .ok (.iload 4, 2) := by decide +kernel
theorem dX1_fewestToBeSafe_63 : decode cX1_fewestToBeSafe 63 = .ok (.invokestatic 121, 3) := by decide +kernel
theorem dX1_fewestToBeSafe_66 : decode cX1_fewestToBeSafe 66 = .ok (.if_icmp .ge 7, 3) := by decide +kernel
theorem dX1_fewestToBeSafe_69 : decode cX1_fewestToBeSafe 69 = .ok (.iload 5, 2) := by decide +kernel
theorem dX1_fewestToBeSafe_71 : decode cX1_fewestToBeSafe 71 = .ok (.istore 4, 2) := by decide +kernel
theorem dX1_fewestToBeSafe_73 : decode cX1_fewestToBeSafe 73 = .ok (.iinc 5 1, 3) := by decide +kernel
theorem dX1_fewestToBeSafe_76 : decode cX1_fewestToBeSafe 76 = .ok (.goto (-58), 3) := by decide +kernel
theorem dX1_fewestToBeSafe_79 : decode cX1_fewestToBeSafe 79 = .ok (.iload 4, 2) := by decide +kernel
theorem dX1_fewestToBeSafe_81 : decode cX1_fewestToBeSafe 81 = .ok (.ireturn, 1) := by decide +kernel
set_option maxRecDepth 20000 in
theorem ggX1_bestGift_X1_ownBits : GoodIn wsX1_bestGift wsX1_ownBits := goodIn_r _ [5, 6, 7, 8, 9, 10, 4, 11, 66, 67, 68, 69, 70, 71, 72, 73, 74, 75, 76, 77, 78, 79, 80, 81, 82] (by decide +kernel) (by decide +kernel)
set_option maxRecDepth 20000 in
theorem gX1_bestGift_X1_ownBits : GoodIn wsX1_bestGift (wsV RX1 99 RX1 yX1_ownBits wsX1_ownBits) := goodIn_app (goodIn_of _ (by decide +kernel)) ggX1_bestGift_X1_ownBits
set_option maxRecDepth 20000 in
theorem ggX1_bestGift_X1_lostOnMean : GoodIn wsX1_bestGift wsX1_lostOnMean := goodIn_r _ [15, 16, 17, 18, 19, 4, 20, 21, 22, 23, 24, 25, 26, 6, 27, 28, 29, 1, 2, 3, 5, 7, 8, 9, 10, 11, 30, 31, 32, 33, 34, 35, 36, 37, 38, 39, 40, 41, 42, 43, 44, 45, 46, 47, 48, 49, 50, 51, 52, 53, 54, 55, 56, 57, 58, 66, 67, 68, 69, 70, 71, 72, 73, 74, 75, 76, 77, 78, 79, 80, 81, 82] (by decide +kernel) (by decide +kernel)
set_option maxRecDepth 20000 in
theorem gX1_bestGift_X1_lostOnMean : GoodIn wsX1_bestGift (wsV RX1 126 RX1 yX1_lostOnMean wsX1_lostOnMean) := goodIn_app (goodIn_of _ (by decide +kernel)) ggX1_bestGift_X1_lostOnMean
set_option maxRecDepth 20000 in
theorem ggX1_bestGift_J6_bitCount_0f7a4 : GoodIn wsX1_bestGift wsJ6_bitCount_0f7a4 := goodIn_r _ [62, 63, 64, 65] (by decide +kernel) (by decide +kernel)
set_option maxRecDepth 20000 in
theorem gX1_bestGift_J6_bitCount_0f7a4 : GoodIn wsX1_bestGift (va_wsS RX1 121 yJ6_bitCount_0f7a4 wsJ6_bitCount_0f7a4) := goodIn_app (goodIn_of _ (by decide +kernel)) ggX1_bestGift_J6_bitCount_0f7a4
theorem dX1_bestGift_0 : decode cX1_bestGift 0 = .ok (.aload_n 0, 1) := by decide +kernel
theorem dX1_bestGift_1 : decode cX1_bestGift 1 = .ok (.iload_n 1, 1) := by decide +kernel
theorem dX1_bestGift_2 : decode cX1_bestGift 2 = .ok (.invokevirtual 99, 3) := by decide +kernel
theorem dX1_bestGift_5 : decode cX1_bestGift 5 = .ok (.istore_n 3, 1) := by decide +kernel
theorem dX1_bestGift_6 : decode cX1_bestGift 6 = .ok (.iconst 0, 1) := by decide +kernel
theorem dX1_bestGift_7 : decode cX1_bestGift 7 = .ok (.istore 4, 2) := by decide +kernel
theorem dX1_bestGift_9 : decode cX1_bestGift 9 = .ok (.aload_n 0, 1) := by decide +kernel
theorem dX1_bestGift_10 : decode cX1_bestGift 10 = .ok (.iload_n 1, 1) := by decide +kernel
theorem dX1_bestGift_11 : decode cX1_bestGift 11 = .ok (.iload_n 2, 1) := by decide +kernel
theorem dX1_bestGift_12 : decode cX1_bestGift 12 = .ok (.iconst 0, 1) := by decide +kernel
theorem dX1_bestGift_13 : decode cX1_bestGift 13 = .ok (.invokevirtual 126, 3) := by decide +kernel
theorem dX1_bestGift_16 : decode cX1_bestGift 16 = .ok (.istore 5, 2) := by decide +kernel
theorem dX1_bestGift_18 : decode cX1_bestGift 18 = .ok (.iconst 1, 1) := by decide +kernel
theorem dX1_bestGift_19 : decode cX1_bestGift 19 = .ok (.istore 6, 2) := by decide +kernel
theorem dX1_bestGift_21 : decode cX1_bestGift 21 = .ok (.iload 6, 2) := by decide +kernel
theorem dX1_bestGift_23 : decode cX1_bestGift 23 = .ok (.iload_n 3, 1) := by decide +kernel
theorem dX1_bestGift_24 : decode cX1_bestGift 24 = .ok (.if_icmp .gt 78, 3) := by decide +kernel
theorem dX1_bestGift_27 : decode cX1_bestGift 27 = .ok (.iload 6, 2) := by decide +kernel
theorem dX1_bestGift_29 : decode cX1_bestGift 29 = .ok (.iload_n 3, 1) := by decide +kernel
theorem dX1_bestGift_30 : decode cX1_bestGift 30 = .ok (.iconst (-1), 1) := by decide +kernel
theorem dX1_bestGift_31 : decode cX1_bestGift 31 = .ok (.ixor, 1) := by decide +kernel
theorem dX1_bestGift_32 : decode cX1_bestGift 32 = .ok (.iand, 1) := by decide +kernel
theorem dX1_bestGift_33 : decode cX1_bestGift 33 = .ok (.ifCond .eq 6, 3) := by decide +kernel
theorem dX1_bestGift_36 : decode cX1_bestGift 36 = .ok (.goto 60, 3) := by decide +kernel
theorem dX1_bestGift_39 : decode cX1_bestGift 39 = .ok (.aload_n 0, 1) := by decide +kernel
theorem dX1_bestGift_40 : decode cX1_bestGift 40 = .ok (.iload_n 1, 1) := by decide +kernel
theorem dX1_bestGift_41 : decode cX1_bestGift 41 = .ok (.iload_n 2, 1) := by decide +kernel
theorem dX1_bestGift_42 : decode cX1_bestGift 42 = .ok (.iload 6, 2) := by decide +kernel
theorem dX1_bestGift_44 : decode cX1_bestGift 44 = .ok (.invokevirtual 126, 3) := by decide +kernel
theorem dX1_bestGift_47 : decode cX1_bestGift 47 = .ok (.istore 7, 2) := by decide +kernel
theorem dX1_bestGift_49 : decode cX1_bestGift 49 = .ok (.iload 6, 2) := by decide +kernel
theorem dX1_bestGift_51 : decode cX1_bestGift 51 = .ok (.invokestatic 121, 3) := by decide +kernel
theorem dX1_bestGift_54 : decode cX1_bestGift 54 = .ok (.iload 4, 2) := by decide +kernel
theorem dX1_bestGift_56 : decode cX1_bestGift 56 = .ok (.invokestatic 121, 3) := by decide +kernel
theorem dX1_bestGift_59 : decode cX1_bestGift 59 = .ok (.if_icmp .ge 7, 3) := by decide +kernel
theorem dX1_bestGift_62 : decode cX1_bestGift 62 = .ok (.iconst 1, 1) := by decide +kernel
theorem dX1_bestGift_63 : decode cX1_bestGift 63 = .ok (.goto 4, 3) := by decide +kernel
theorem dX1_bestGift_66 : decode cX1_bestGift 66 = .ok (.iconst 0, 1) := by decide +kernel
theorem dX1_bestGift_67 : decode cX1_bestGift 67 = .ok (.istore 8, 2) := by decide +kernel
theorem dX1_bestGift_69 : decode cX1_bestGift 69 = .ok (.iload 7, 2) := by decide +kernel
theorem dX1_bestGift_71 : decode cX1_bestGift 71 = .ok (.iload 5, 2) := by decide +kernel
theorem dX1_bestGift_73 : decode cX1_bestGift 73 = .ok (.if_icmp .lt 15, 3) := by decide +kernel
theorem dX1_bestGift_76 : decode cX1_bestGift 76 = .ok (.iload 7, 2) := by decide +kernel
theorem dX1_bestGift_78 : decode cX1_bestGift 78 = .ok (.iload 5, 2) := by decide +kernel
theorem dX1_bestGift_80 : decode cX1_bestGift 80 = .ok (.if_icmp .ne 16, 3) := by decide +kernel
theorem dX1_bestGift_83 : decode cX1_bestGift 83 = .ok (.iload 8, 2) := by decide +kernel
theorem dX1_bestGift_85 : decode cX1_bestGift 85 = .ok (.ifCond .eq 11, 3) := by decide +kernel
theorem dX1_bestGift_88 : decode cX1_bestGift 88 = .ok (.iload 6, 2) := by decide +kernel
theorem dX1_bestGift_90 : decode cX1_bestGift 90 = .ok (.istore 4, 2) := by decide +kernel
theorem dX1_bestGift_92 : decode cX1_bestGift 92 = .ok (.iload 7, 2) := by decide +kernel
theorem dX1_bestGift_94 : decode cX1_bestGift 94 = .ok (.istore 5, 2) := by decide +kernel
theorem dX1_bestGift_96 : decode cX1_bestGift 96 = .ok (.iinc 6 1, 3) := by decide +kernel
theorem dX1_bestGift_99 : decode cX1_bestGift 99 = .ok (.goto (-78), 3) := by decide +kernel
theorem dX1_bestGift_102 : decode cX1_bestGift 102 = .ok (.iload 4, 2) := by decide +kernel
theorem dX1_bestGift_104 : decode cX1_bestGift 104 = .ok (.ireturn, 1) := by decide +kernel
set_option maxRecDepth 20000 in
theorem ggX1_lostOnMean_X1_hasHolder : GoodIn wsX1_lostOnMean wsX1_hasHolder := goodIn_r _ [6, 7, 55, 56, 57, 58, 59, 60, 61, 62, 63, 64, 65, 66, 67, 68, 69, 70, 71] (by decide +kernel) (by decide +kernel)
set_option maxRecDepth 20000 in
theorem gX1_lostOnMean_X1_hasHolder : GoodIn wsX1_lostOnMean (wsV RX1 71 RX1 yX1_hasHolder wsX1_hasHolder) := goodIn_app (goodIn_of _ (by decide +kernel)) ggX1_lostOnMean_X1_hasHolder
set_option maxRecDepth 20000 in
theorem ggX1_lostOnMean_X1_heldLater : GoodIn wsX1_lostOnMean wsX1_heldLater := goodIn_r _ [11, 12, 13, 14, 15, 16, 17, 18, 19, 5, 20, 21, 22, 23, 24, 25, 55, 56, 57, 58, 59, 60, 61, 62, 63, 64, 65, 66, 67, 68, 69, 70, 71] (by decide +kernel) (by decide +kernel)
set_option maxRecDepth 20000 in
theorem gX1_lostOnMean_X1_heldLater : GoodIn wsX1_lostOnMean (wsV RX1 95 RX1 yX1_heldLater wsX1_heldLater) := goodIn_app (goodIn_of _ (by decide +kernel)) ggX1_lostOnMean_X1_heldLater
set_option maxRecDepth 20000 in
theorem ggX1_lostOnMean_X1_takenFrom : GoodIn wsX1_lostOnMean wsX1_takenFrom := goodIn_r _ [29, 30, 2, 3, 4, 5, 6, 7, 31, 32, 33, 34, 35, 36, 37, 38, 39, 40, 41, 42, 43, 44, 45, 46, 47, 48, 49, 13, 50, 22, 23, 24, 25, 55, 56, 57, 58, 59, 60, 61, 62, 63, 64, 65, 66, 67, 68, 69, 70, 71] (by decide +kernel) (by decide +kernel)
set_option maxRecDepth 20000 in
theorem gX1_lostOnMean_X1_takenFrom : GoodIn wsX1_lostOnMean (wsV RX1 115 RX1 yX1_takenFrom wsX1_takenFrom) := goodIn_app (goodIn_of _ (by decide +kernel)) ggX1_lostOnMean_X1_takenFrom
set_option maxRecDepth 20000 in
theorem ggX1_lostOnMean_X1_worthOf : GoodIn wsX1_lostOnMean wsX1_worthOf := goodIn_r _ [54, 13, 50, 22, 23, 24, 5, 25, 55, 56, 57, 58, 59, 60, 61, 62, 63, 64, 65, 66, 67, 68, 69, 70, 71] (by decide +kernel) (by decide +kernel)
set_option maxRecDepth 20000 in
theorem gX1_lostOnMean_X1_worthOf : GoodIn wsX1_lostOnMean (wsV RX1 118 RX1 yX1_worthOf wsX1_worthOf) := goodIn_app (goodIn_of _ (by decide +kernel)) ggX1_lostOnMean_X1_worthOf
theorem dX1_lostOnMean_0 : decode cX1_lostOnMean 0 = .ok (.aload_n 0, 1) := by decide +kernel
theorem dX1_lostOnMean_1 : decode cX1_lostOnMean 1 = .ok (.iload_n 1, 1) := by decide +kernel
theorem dX1_lostOnMean_2 : decode cX1_lostOnMean 2 = .ok (.invokevirtual 71, 3) := by decide +kernel
theorem dX1_lostOnMean_5 : decode cX1_lostOnMean 5 = .ok (.ifCond .ne 5, 3) := by decide +kernel
theorem dX1_lostOnMean_8 : decode cX1_lostOnMean 8 = .ok (.iconst 0, 1) := by decide +kernel
theorem dX1_lostOnMean_9 : decode cX1_lostOnMean 9 = .ok (.ireturn, 1) := by decide +kernel
theorem dX1_lostOnMean_10 : decode cX1_lostOnMean 10 = .ok (.iconst 0, 1) := by decide +kernel
theorem dX1_lostOnMean_11 : decode cX1_lostOnMean 11 = .ok (.istore 4, 2) := by decide +kernel
theorem dX1_lostOnMean_13 : decode cX1_lostOnMean 13 = .ok (.iconst 1, 1) := by decide +kernel
theorem dX1_lostOnMean_14 : decode cX1_lostOnMean 14 = .ok (.istore 5, 2) := by decide +kernel
theorem dX1_lostOnMean_16 : decode cX1_lostOnMean 16 = .ok (.iconst 0, 1) := by decide +kernel
theorem dX1_lostOnMean_17 : decode cX1_lostOnMean 17 = .ok (.istore 6, 2) := by decide +kernel
theorem dX1_lostOnMean_19 : decode cX1_lostOnMean 19 = .ok (.iload 6, 2) := by decide +kernel
theorem dX1_lostOnMean_21 : decode cX1_lostOnMean 21 = .ok (.iload_n 2, 1) := by decide +kernel
theorem dX1_lostOnMean_22 : decode cX1_lostOnMean 22 = .ok (.if_icmp .ge 62, 3) := by decide +kernel
theorem dX1_lostOnMean_25 : decode cX1_lostOnMean 25 = .ok (.aload_n 0, 1) := by decide +kernel
theorem dX1_lostOnMean_26 : decode cX1_lostOnMean 26 = .ok (.aload_n 0, 1) := by decide +kernel
theorem dX1_lostOnMean_27 : decode cX1_lostOnMean 27 = .ok (.iload_n 1, 1) := by decide +kernel
theorem dX1_lostOnMean_28 : decode cX1_lostOnMean 28 = .ok (.aload_n 0, 1) := by decide +kernel
theorem dX1_lostOnMean_29 : decode cX1_lostOnMean 29 = .ok (.iload_n 1, 1) := by decide +kernel
theorem dX1_lostOnMean_30 : decode cX1_lostOnMean 30 = .ok (.iload 6, 2) := by decide +kernel
theorem dX1_lostOnMean_32 : decode cX1_lostOnMean 32 = .ok (.iload_n 3, 1) := by decide +kernel
theorem dX1_lostOnMean_33 : decode cX1_lostOnMean 33 = .ok (.invokevirtual 95, 3) := by decide +kernel
theorem dX1_lostOnMean_36 : decode cX1_lostOnMean 36 = .ok (.invokevirtual 115, 3) := by decide +kernel
theorem dX1_lostOnMean_39 : decode cX1_lostOnMean 39 = .ok (.invokevirtual 118, 3) := by decide +kernel
theorem dX1_lostOnMean_42 : decode cX1_lostOnMean 42 = .ok (.istore 7, 2) := by decide +kernel
theorem dX1_lostOnMean_44 : decode cX1_lostOnMean 44 = .ok (.iload 4, 2) := by decide +kernel
theorem dX1_lostOnMean_46 : decode cX1_lostOnMean 46 = .ok (.bipush 10, 2) := by decide +kernel
theorem dX1_lostOnMean_48 : decode cX1_lostOnMean 48 = .ok (.imul, 1) := by decide +kernel
theorem dX1_lostOnMean_49 : decode cX1_lostOnMean 49 = .ok (.iload 5, 2) := by decide +kernel
theorem dX1_lostOnMean_51 : decode cX1_lostOnMean 51 = .ok (.aload_n 0, 1) := by decide +kernel
theorem dX1_lostOnMean_52 : decode cX1_lostOnMean 52 = .ok (.getfield 31, 3) := by decide +kernel
theorem dX1_lostOnMean_55 : decode cX1_lostOnMean 55 = .ok (.iload_n 1, 1) := by decide +kernel
theorem dX1_lostOnMean_56 : decode cX1_lostOnMean 56 = .ok (.iaload, 1) := by decide +kernel
theorem dX1_lostOnMean_57 : decode cX1_lostOnMean 57 = .ok (.imul, 1) := by decide +kernel
theorem dX1_lostOnMean_58 : decode cX1_lostOnMean 58 = .ok (.iload 7, 2) := by decide +kernel
theorem dX1_lostOnMean_60 : decode cX1_lostOnMean 60 = .ok (.imul, 1) := by decide +kernel
theorem dX1_lostOnMean_61 : decode cX1_lostOnMean 61 = .ok (.iadd, 1) := by decide +kernel
theorem dX1_lostOnMean_62 : decode cX1_lostOnMean 62 = .ok (.istore 4, 2) := by decide +kernel
theorem dX1_lostOnMean_64 : decode cX1_lostOnMean 64 = .ok (.iload 5, 2) := by decide +kernel
theorem dX1_lostOnMean_66 : decode cX1_lostOnMean 66 = .ok (.bipush 10, 2) := by decide +kernel
theorem dX1_lostOnMean_68 : decode cX1_lostOnMean 68 = .ok (.aload_n 0, 1) := by decide +kernel
theorem dX1_lostOnMean_69 : decode cX1_lostOnMean 69 = .ok (.getfield 31, 3) := by decide +kernel
theorem dX1_lostOnMean_72 : decode cX1_lostOnMean 72 = .ok (.iload_n 1, 1) := by decide +kernel
theorem dX1_lostOnMean_73 : decode cX1_lostOnMean 73 = .ok (.iaload, 1) := by decide +kernel
theorem dX1_lostOnMean_74 : decode cX1_lostOnMean 74 = .ok (.isub, 1) := by decide +kernel
theorem dX1_lostOnMean_75 : decode cX1_lostOnMean 75 = .ok (.imul, 1) := by decide +kernel
theorem dX1_lostOnMean_76 : decode cX1_lostOnMean 76 = .ok (.istore 5, 2) := by decide +kernel
theorem dX1_lostOnMean_78 : decode cX1_lostOnMean 78 = .ok (.iinc 6 1, 3) := by decide +kernel
theorem dX1_lostOnMean_81 : decode cX1_lostOnMean 81 = .ok (.goto (-62), 3) := by decide +kernel
theorem dX1_lostOnMean_84 : decode cX1_lostOnMean 84 = .ok (.iload 4, 2) := by decide +kernel
theorem dX1_lostOnMean_86 : decode cX1_lostOnMean 86 = .ok (.ireturn, 1) := by decide +kernel
set_option maxRecDepth 20000 in
theorem ggX1_isAsTold_X1_hasBeast : GoodIn wsX1_isAsTold wsX1_hasBeast := goodIn_r _ [7, 1, 8, 9, 10, 11, 12, 13, 14, 15, 16, 17, 18, 19, 20, 21, 22, 23, 24] (by decide +kernel) (by decide +kernel)
set_option maxRecDepth 20000 in
theorem gX1_isAsTold_X1_hasBeast : GoodIn wsX1_isAsTold (wsV RX1 78 RX1 yX1_hasBeast wsX1_hasBeast) := goodIn_app (goodIn_of _ (by decide +kernel)) ggX1_isAsTold_X1_hasBeast
theorem dX1_isAsTold_0 : decode cX1_isAsTold 0 = .ok (.iconst 0, 1) := by decide +kernel
theorem dX1_isAsTold_1 : decode cX1_isAsTold 1 = .ok (.istore_n 2, 1) := by decide +kernel
theorem dX1_isAsTold_2 : decode cX1_isAsTold 2 = .ok (.iload_n 2, 1) := by decide +kernel
theorem dX1_isAsTold_3 : decode cX1_isAsTold 3 = .ok (.aload_n 0, 1) := by decide +kernel
theorem dX1_isAsTold_4 : decode cX1_isAsTold 4 = .ok (.getfield 41, 3) := by decide +kernel
theorem dX1_isAsTold_7 : decode cX1_isAsTold 7 = .ok (.if_icmp .ge 43, 3) := by decide +kernel
theorem dX1_isAsTold_10 : decode cX1_isAsTold 10 = .ok (.aload_n 0, 1) := by decide +kernel
theorem dX1_isAsTold_11 : decode cX1_isAsTold 11 = .ok (.iload_n 2, 1) := by decide +kernel
theorem dX1_isAsTold_12 : decode cX1_isAsTold 12 = .ok (.invokevirtual 78, 3) := by decide +kernel
theorem dX1_isAsTold_15 : decode cX1_isAsTold 15 = .ok (.ifCond .eq 29, 3) := by decide +kernel
theorem dX1_isAsTold_18 : decode cX1_isAsTold 18 = .ok (.aload_n 0, 1) := by decide +kernel
theorem dX1_isAsTold_19 : decode cX1_isAsTold 19 = .ok (.getfield 56, 3) := by decide +kernel
theorem dX1_isAsTold_22 : decode cX1_isAsTold 22 = .ok (.iload_n 2, 1) := by decide +kernel
theorem dX1_isAsTold_23 : decode cX1_isAsTold 23 = .ok (.iaload, 1) := by decide +kernel
theorem dX1_isAsTold_24 : decode cX1_isAsTold 24 = .ok (.iconst (-1), 1) := by decide +kernel
theorem dX1_isAsTold_25 : decode cX1_isAsTold 25 = .ok (.if_icmp .eq 19, 3) := by decide +kernel
theorem dX1_isAsTold_28 : decode cX1_isAsTold 28 = .ok (.aload_n 0, 1) := by decide +kernel
theorem dX1_isAsTold_29 : decode cX1_isAsTold 29 = .ok (.getfield 56, 3) := by decide +kernel
theorem dX1_isAsTold_32 : decode cX1_isAsTold 32 = .ok (.iload_n 2, 1) := by decide +kernel
theorem dX1_isAsTold_33 : decode cX1_isAsTold 33 = .ok (.iaload, 1) := by decide +kernel
theorem dX1_isAsTold_34 : decode cX1_isAsTold 34 = .ok (.iload_n 1, 1) := by decide +kernel
theorem dX1_isAsTold_35 : decode cX1_isAsTold 35 = .ok (.iload_n 2, 1) := by decide +kernel
theorem dX1_isAsTold_36 : decode cX1_isAsTold 36 = .ok (.ishr, 1) := by decide +kernel
theorem dX1_isAsTold_37 : decode cX1_isAsTold 37 = .ok (.iconst 1, 1) := by decide +kernel
theorem dX1_isAsTold_38 : decode cX1_isAsTold 38 = .ok (.iand, 1) := by decide +kernel
theorem dX1_isAsTold_39 : decode cX1_isAsTold 39 = .ok (.if_icmp .eq 5, 3) := by decide +kernel
theorem dX1_isAsTold_42 : decode cX1_isAsTold 42 = .ok (.iconst 0, 1) := by decide +kernel
theorem dX1_isAsTold_43 : decode cX1_isAsTold 43 = .ok (.ireturn, 1) := by decide +kernel
theorem dX1_isAsTold_44 : decode cX1_isAsTold 44 = .ok (.iinc 2 1, 3) := by decide +kernel
theorem dX1_isAsTold_47 : decode cX1_isAsTold 47 = .ok (.goto (-45), 3) := by decide +kernel
theorem dX1_isAsTold_50 : decode cX1_isAsTold 50 = .ok (.iconst 1, 1) := by decide +kernel
theorem dX1_isAsTold_51 : decode cX1_isAsTold 51 = .ok (.ireturn, 1) := by decide +kernel
set_option maxRecDepth 20000 in
theorem ggX1_liveOneYear_X1_isAlive : GoodIn wsX1_liveOneYear wsX1_isAlive := goodIn_r _ [9, 10, 11, 12, 13, 8, 14, 1, 92, 93, 94, 95, 96, 97, 98, 99, 100, 101, 102, 103, 104, 105, 106, 107, 108] (by decide +kernel) (by decide +kernel)
set_option maxRecDepth 20000 in
theorem gX1_liveOneYear_X1_isAlive : GoodIn wsX1_liveOneYear (wsV RX1 75 RX1 yX1_isAlive wsX1_isAlive) := goodIn_app (goodIn_of _ (by decide +kernel)) ggX1_liveOneYear_X1_isAlive
set_option maxRecDepth 20000 in
theorem ggX1_liveOneYear_X0_drawOf : GoodIn wsX1_liveOneYear wsX0_drawOf := goodIn_r _ [19, 20, 21, 22, 23, 24, 109] (by decide +kernel) (by decide +kernel)
set_option maxRecDepth 20000 in
theorem gX1_liveOneYear_X0_drawOf : GoodIn wsX1_liveOneYear (wsV RX1 129 RX0 yX0_drawOf wsX0_drawOf) := goodIn_app (goodIn_of _ (by decide +kernel)) ggX1_liveOneYear_X0_drawOf
set_option maxRecDepth 20000 in
theorem ggX1_liveOneYear_X1_bury : GoodIn wsX1_liveOneYear wsX1_bury := goodIn_r _ [28, 29, 3, 30, 10, 31, 5, 6, 7, 8, 9, 11, 12, 13, 14, 1, 32, 33, 34, 35, 36, 37, 38, 39, 40, 41, 4, 42, 43, 44, 45, 46, 47, 48, 49, 50, 51, 52, 53, 54, 55, 56, 57, 58, 59, 60, 61, 62, 63, 64, 65, 66, 67, 68, 69, 70, 71, 72, 73, 74, 75, 76, 77, 78, 79, 80, 81, 82, 83, 92, 93, 94, 95, 96, 97, 98, 99, 100, 101, 102, 103, 104, 105, 106, 107, 108] (by decide +kernel) (by decide +kernel)
set_option maxRecDepth 20000 in
theorem gX1_liveOneYear_X1_bury : GoodIn wsX1_liveOneYear (wsV RX1 134 RX1 yX1_bury wsX1_bury) := goodIn_app (goodIn_of _ (by decide +kernel)) ggX1_liveOneYear_X1_bury
set_option maxRecDepth 20000 in
theorem ggX1_liveOneYear_X1_makeGift : GoodIn wsX1_liveOneYear wsX1_makeGift := goodIn_r _ [87, 41, 30, 42, 4, 88, 89, 90, 8, 91, 47, 48, 49, 50, 3, 5, 6, 7, 9, 10, 11, 12, 13, 14, 1, 92, 93, 94, 95, 96, 97, 98, 99, 100, 101, 102, 103, 104, 105, 106, 107, 108] (by decide +kernel) (by decide +kernel)
set_option maxRecDepth 20000 in
theorem gX1_liveOneYear_X1_makeGift : GoodIn wsX1_liveOneYear (wsV RX1 137 RX1 yX1_makeGift wsX1_makeGift) := goodIn_app (goodIn_of _ (by decide +kernel)) ggX1_liveOneYear_X1_makeGift
theorem dX1_liveOneYear_0 : decode cX1_liveOneYear 0 = .ok (.aload_n 1, 1) := by decide +kernel
theorem dX1_liveOneYear_1 : decode cX1_liveOneYear 1 = .ok (.ifnonnull 4, 3) := by decide +kernel
theorem dX1_liveOneYear_4 : decode cX1_liveOneYear 4 = .ok (.return_, 1) := by decide +kernel
theorem dX1_liveOneYear_5 : decode cX1_liveOneYear 5 = .ok (.iconst 0, 1) := by decide +kernel
theorem dX1_liveOneYear_6 : decode cX1_liveOneYear 6 = .ok (.istore_n 2, 1) := by decide +kernel
theorem dX1_liveOneYear_7 : decode cX1_liveOneYear 7 = .ok (.iload_n 2, 1) := by decide +kernel
theorem dX1_liveOneYear_8 : decode cX1_liveOneYear 8 = .ok (.aload_n 0, 1) := by decide +kernel
theorem dX1_liveOneYear_9 : decode cX1_liveOneYear 9 = .ok (.getfield 24, 3) := by decide +kernel
theorem dX1_liveOneYear_12 : decode cX1_liveOneYear 12 = .ok (.if_icmp .ge 38, 3) := by decide +kernel
theorem dX1_liveOneYear_15 : decode cX1_liveOneYear 15 = .ok (.aload_n 0, 1) := by decide +kernel
theorem dX1_liveOneYear_16 : decode cX1_liveOneYear 16 = .ok (.iload_n 2, 1) := by decide +kernel
theorem dX1_liveOneYear_17 : decode cX1_liveOneYear 17 = .ok (.invokevirtual 75, 3) := by decide +kernel
theorem dX1_liveOneYear_20 : decode cX1_liveOneYear 20 = .ok (.ifCond .eq 24, 3) := by decide +kernel
theorem dX1_liveOneYear_23 : decode cX1_liveOneYear 23 = .ok (.aload_n 1, 1) := by decide +kernel
theorem dX1_liveOneYear_24 : decode cX1_liveOneYear 24 = .ok (.bipush 10, 2) := by decide +kernel
theorem dX1_liveOneYear_26 : decode cX1_liveOneYear 26 = .ok (.invokevirtual 129, 3) := by decide +kernel
theorem dX1_liveOneYear_29 : decode cX1_liveOneYear 29 = .ok (.aload_n 0, 1) := by decide +kernel
theorem dX1_liveOneYear_30 : decode cX1_liveOneYear 30 = .ok (.getfield 31, 3) := by decide +kernel
theorem dX1_liveOneYear_33 : decode cX1_liveOneYear 33 = .ok (.iload_n 2, 1) := by decide +kernel
theorem dX1_liveOneYear_34 : decode cX1_liveOneYear 34 = .ok (.iaload, 1) := by decide +kernel
theorem dX1_liveOneYear_35 : decode cX1_liveOneYear 35 = .ok (.if_icmp .ge 9, 3) := by decide +kernel
theorem dX1_liveOneYear_38 : decode cX1_liveOneYear 38 = .ok (.aload_n 0, 1) := by decide +kernel
theorem dX1_liveOneYear_39 : decode cX1_liveOneYear 39 = .ok (.iload_n 2, 1) := by decide +kernel
theorem dX1_liveOneYear_40 : decode cX1_liveOneYear 40 = .ok (.invokevirtual 134, 3) := by decide +kernel
theorem dX1_liveOneYear_43 : decode cX1_liveOneYear 43 = .ok (.pop, 1) := by decide +kernel
theorem dX1_liveOneYear_44 : decode cX1_liveOneYear 44 = .ok (.iinc 2 1, 3) := by decide +kernel
theorem dX1_liveOneYear_47 : decode cX1_liveOneYear 47 = .ok (.goto (-40), 3) := by decide +kernel
theorem dX1_liveOneYear_50 : decode cX1_liveOneYear 50 = .ok (.aload_n 0, 1) := by decide +kernel
theorem dX1_liveOneYear_51 : decode cX1_liveOneYear 51 = .ok (.getfield 41, 3) := by decide +kernel
theorem dX1_liveOneYear_54 : decode cX1_liveOneYear 54 = .ok (.ifCond .le 25, 3) := by decide +kernel
theorem dX1_liveOneYear_57 : decode cX1_liveOneYear 57 = .ok (.aload_n 1, 1) := by decide +kernel
theorem dX1_liveOneYear_58 : decode cX1_liveOneYear 58 = .ok (.aload_n 0, 1) := by decide +kernel
theorem dX1_liveOneYear_59 : decode cX1_liveOneYear 59 = .ok (.getfield 41, 3) := by decide +kernel
theorem dX1_liveOneYear_62 : decode cX1_liveOneYear 62 = .ok (.invokevirtual 129, 3) := by decide +kernel
theorem dX1_liveOneYear_65 : decode cX1_liveOneYear 65 = .ok (.istore_n 2, 1) := by decide +kernel
theorem dX1_liveOneYear_66 : decode cX1_liveOneYear 66 = .ok (.aload_n 0, 1) := by decide +kernel
theorem dX1_liveOneYear_67 : decode cX1_liveOneYear 67 = .ok (.iload_n 2, 1) := by decide +kernel
theorem dX1_liveOneYear_68 : decode cX1_liveOneYear 68 = .ok (.aload_n 1, 1) := by decide +kernel
theorem dX1_liveOneYear_69 : decode cX1_liveOneYear 69 = .ok (.aload_n 0, 1) := by decide +kernel
theorem dX1_liveOneYear_70 : decode cX1_liveOneYear 70 = .ok (.getfield 24, 3) := by decide +kernel
theorem dX1_liveOneYear_73 : decode cX1_liveOneYear 73 = .ok (.invokevirtual 129, 3) := by decide +kernel
theorem dX1_liveOneYear_76 : decode cX1_liveOneYear 76 = .ok (.invokevirtual 137, 3) := by decide +kernel
theorem dX1_liveOneYear_79 : decode cX1_liveOneYear 79 = .ok (.aload_n 0, 1) := by decide +kernel
theorem dX1_liveOneYear_80 : decode cX1_liveOneYear 80 = .ok (.dup, 1) := by decide +kernel
theorem dX1_liveOneYear_81 : decode cX1_liveOneYear 81 = .ok (.getfield 59, 3) := by decide +kernel
theorem dX1_liveOneYear_84 : decode cX1_liveOneYear 84 = .ok (.iconst 1, 1) := by decide +kernel
theorem dX1_liveOneYear_85 : decode cX1_liveOneYear 85 = .ok (.iadd, 1) := by decide +kernel
theorem dX1_liveOneYear_86 : decode cX1_liveOneYear 86 = .ok (.putfield 59, 3) := by decide +kernel
theorem dX1_liveOneYear_89 : decode cX1_liveOneYear 89 = .ok (.return_, 1) := by decide +kernel
