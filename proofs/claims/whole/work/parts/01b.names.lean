theorem dX7_fromBits_99 : decode cX7_fromBits 99 = .ok (.iconst 1, 1) := by decide +kernel
theorem dX7_fromBits_100 : decode cX7_fromBits 100 = .ok (.goto 4, 3) := by decide +kernel
theorem dX7_fromBits_103 : decode cX7_fromBits 103 = .ok (.iconst 0, 1) := by decide +kernel
theorem dX7_fromBits_104 : decode cX7_fromBits 104 = .ok (.istore 13, 2) := by decide +kernel
theorem dX7_fromBits_106 : decode cX7_fromBits 106 = .ok (.iload 13, 2) := by decide +kernel
theorem dX7_fromBits_108 : decode cX7_fromBits 108 = .ok (.ifCond .eq 9, 3) := by decide +kernel
theorem dX7_fromBits_111 : decode cX7_fromBits 111 = .ok (.dload 11, 2) := by decide +kernel
theorem dX7_fromBits_113 : decode cX7_fromBits 113 = .ok (.dneg, 1) := by decide +kernel
theorem dX7_fromBits_114 : decode cX7_fromBits 114 = .ok (.goto 5, 3) := by decide +kernel
theorem dX7_fromBits_117 : decode cX7_fromBits 117 = .ok (.dload 11, 2) := by decide +kernel
theorem dX7_fromBits_119 : decode cX7_fromBits 119 = .ok (.dreturn, 1) := by decide +kernel
theorem dX7_timesPowerOfTwo_0 : decode cX7_timesPowerOfTwo 0 = .ok (.dload_n 0, 1) := by decide +kernel
theorem dX7_timesPowerOfTwo_1 : decode cX7_timesPowerOfTwo 1 = .ok (.dstore_n 3, 1) := by decide +kernel
theorem dX7_timesPowerOfTwo_2 : decode cX7_timesPowerOfTwo 2 = .ok (.iload_n 2, 1) := by decide +kernel
theorem dX7_timesPowerOfTwo_3 : decode cX7_timesPowerOfTwo 3 = .ok (.istore 5, 2) := by decide +kernel
theorem dX7_timesPowerOfTwo_5 : decode cX7_timesPowerOfTwo 5 = .ok (.bipush 32, 2) := by decide +kernel
theorem dX7_timesPowerOfTwo_7 : decode cX7_timesPowerOfTwo 7 = .ok (.istore 6, 2) := by decide +kernel
theorem dX7_timesPowerOfTwo_9 : decode cX7_timesPowerOfTwo 9 = .ok (.iload 6, 2) := by decide +kernel
theorem dX7_timesPowerOfTwo_11 : decode cX7_timesPowerOfTwo 11 = .ok (.ifCond .le 64, 3) := by decide +kernel
theorem dX7_timesPowerOfTwo_14 : decode cX7_timesPowerOfTwo 14 = .ok (.lconst 1, 1) := by decide +kernel
theorem dX7_timesPowerOfTwo_15 : decode cX7_timesPowerOfTwo 15 = .ok (.iload 6, 2) := by decide +kernel
theorem dX7_timesPowerOfTwo_17 : decode cX7_timesPowerOfTwo 17 = .ok (.lshl, 1) := by decide +kernel
theorem dX7_timesPowerOfTwo_18 : decode cX7_timesPowerOfTwo 18 = .ok (.l2d, 1) := by decide +kernel
theorem dX7_timesPowerOfTwo_19 : decode cX7_timesPowerOfTwo 19 = .ok (.dstore 7, 2) := by decide +kernel
theorem dX7_timesPowerOfTwo_21 : decode cX7_timesPowerOfTwo 21 = .ok (.iload 5, 2) := by decide +kernel
theorem dX7_timesPowerOfTwo_23 : decode cX7_timesPowerOfTwo 23 = .ok (.iload 6, 2) := by decide +kernel
theorem dX7_timesPowerOfTwo_25 : decode cX7_timesPowerOfTwo 25 = .ok (.if_icmp .lt 18, 3) := by decide +kernel
theorem dX7_timesPowerOfTwo_28 : decode cX7_timesPowerOfTwo 28 = .ok (.dload_n 3, 1) := by decide +kernel
theorem dX7_timesPowerOfTwo_29 : decode cX7_timesPowerOfTwo 29 = .ok (.dload 7, 2) := by decide +kernel
theorem dX7_timesPowerOfTwo_31 : decode cX7_timesPowerOfTwo 31 = .ok (.dmul, 1) := by decide +kernel
theorem dX7_timesPowerOfTwo_32 : decode cX7_timesPowerOfTwo 32 = .ok (.dstore_n 3, 1) := by decide +kernel
theorem dX7_timesPowerOfTwo_33 : decode cX7_timesPowerOfTwo 33 = .ok (.iload 5, 2) := by decide +kernel
theorem dX7_timesPowerOfTwo_35 : decode cX7_timesPowerOfTwo 35 = .ok (.iload 6, 2) := by decide +kernel
theorem dX7_timesPowerOfTwo_37 : decode cX7_timesPowerOfTwo 37 = .ok (.isub, 1) := by decide +kernel
theorem dX7_timesPowerOfTwo_38 : decode cX7_timesPowerOfTwo 38 = .ok (.istore 5, 2) := by decide +kernel
theorem dX7_timesPowerOfTwo_40 : decode cX7_timesPowerOfTwo 40 = .ok (.goto (-19), 3) := by decide +kernel
theorem dX7_timesPowerOfTwo_43 : decode cX7_timesPowerOfTwo 43 = .ok (.iload 5, 2) := by decide +kernel
theorem dX7_timesPowerOfTwo_45 : decode cX7_timesPowerOfTwo 45 = .ok (.iload 6, 2) := by decide +kernel
theorem dX7_timesPowerOfTwo_47 : decode cX7_timesPowerOfTwo 47 = .ok (.ineg, 1) := by decide +kernel
theorem dX7_timesPowerOfTwo_48 : decode cX7_timesPowerOfTwo 48 = .ok (.if_icmp .gt 18, 3) := by decide +kernel
theorem dX7_timesPowerOfTwo_51 : decode cX7_timesPowerOfTwo 51 = .ok (.dload_n 3, 1) := by decide +kernel
theorem dX7_timesPowerOfTwo_52 : decode cX7_timesPowerOfTwo 52 = .ok (.dload 7, 2) := by decide +kernel
theorem dX7_timesPowerOfTwo_54 : decode cX7_timesPowerOfTwo 54 = .ok (.ddiv, 1) := by decide +kernel
theorem dX7_timesPowerOfTwo_55 : decode cX7_timesPowerOfTwo 55 = .ok (.dstore_n 3, 1) := by decide +kernel
theorem dX7_timesPowerOfTwo_56 : decode cX7_timesPowerOfTwo 56 = .ok (.iload 5, 2) := by decide +kernel
theorem dX7_timesPowerOfTwo_58 : decode cX7_timesPowerOfTwo 58 = .ok (.iload 6, 2) := by decide +kernel
theorem dX7_timesPowerOfTwo_60 : decode cX7_timesPowerOfTwo 60 = .ok (.iadd, 1) := by decide +kernel
theorem dX7_timesPowerOfTwo_61 : decode cX7_timesPowerOfTwo 61 = .ok (.istore 5, 2) := by decide +kernel
theorem dX7_timesPowerOfTwo_63 : decode cX7_timesPowerOfTwo 63 = .ok (.goto (-20), 3) := by decide +kernel
theorem dX7_timesPowerOfTwo_66 : decode cX7_timesPowerOfTwo 66 = .ok (.iload 6, 2) := by decide +kernel
theorem dX7_timesPowerOfTwo_68 : decode cX7_timesPowerOfTwo 68 = .ok (.iconst 2, 1) := by decide +kernel
theorem dX7_timesPowerOfTwo_69 : decode cX7_timesPowerOfTwo 69 = .ok (.idiv, 1) := by decide +kernel
theorem dX7_timesPowerOfTwo_70 : decode cX7_timesPowerOfTwo 70 = .ok (.istore 6, 2) := by decide +kernel
theorem dX7_timesPowerOfTwo_72 : decode cX7_timesPowerOfTwo 72 = .ok (.goto (-63), 3) := by decide +kernel
theorem dX7_timesPowerOfTwo_75 : decode cX7_timesPowerOfTwo 75 = .ok (.dload_n 3, 1) := by decide +kernel
theorem dX7_timesPowerOfTwo_76 : decode cX7_timesPowerOfTwo 76 = .ok (.dreturn, 1) := by decide +kernel
set_option maxRecDepth 20000 in
theorem ggX7_toBits_X7_sizeOf : GoodIn wsX7_toBits wsX7_sizeOf := goodIn_r _ [6] (by decide +kernel) (by decide +kernel)
set_option maxRecDepth 20000 in
theorem gX7_toBits_X7_sizeOf : GoodIn wsX7_toBits (va_wsS RX7 23 yX7_sizeOf wsX7_sizeOf) := goodIn_app (goodIn_of _ (by decide +kernel)) ggX7_toBits_X7_sizeOf
set_option maxRecDepth 20000 in
theorem ggX7_toBits_X7_isNegative : GoodIn wsX7_toBits wsX7_isNegative := goodIn_r _ [9] (by decide +kernel) (by decide +kernel)
set_option maxRecDepth 20000 in
theorem gX7_toBits_X7_isNegative : GoodIn wsX7_toBits (va_wsS RX7 29 yX7_isNegative wsX7_isNegative) := goodIn_app (goodIn_of _ (by decide +kernel)) ggX7_toBits_X7_isNegative
theorem dX7_toBits_0 : decode cX7_toBits 0 = .ok (.iload_n 0, 1) := by decide +kernel
theorem dX7_toBits_1 : decode cX7_toBits 1 = .ok (.ifCond .eq 8, 3) := by decide +kernel
theorem dX7_toBits_4 : decode cX7_toBits 4 = .ok (.bipush 52, 2) := by decide +kernel
theorem dX7_toBits_6 : decode cX7_toBits 6 = .ok (.goto 5, 3) := by decide +kernel
theorem dX7_toBits_9 : decode cX7_toBits 9 = .ok (.bipush 23, 2) := by decide +kernel
theorem dX7_toBits_11 : decode cX7_toBits 11 = .ok (.istore_n 3, 1) := by decide +kernel
theorem dX7_toBits_12 : decode cX7_toBits 12 = .ok (.iload_n 0, 1) := by decide +kernel
theorem dX7_toBits_13 : decode cX7_toBits 13 = .ok (.ifCond .eq 9, 3) := by decide +kernel
theorem dX7_toBits_16 : decode cX7_toBits 16 = .ok (.sipush 2047, 3) := by decide +kernel
theorem dX7_toBits_19 : decode cX7_toBits 19 = .ok (.goto 6, 3) := by decide +kernel
theorem dX7_toBits_22 : decode cX7_toBits 22 = .ok (.sipush 255, 3) := by decide +kernel
theorem dX7_toBits_25 : decode cX7_toBits 25 = .ok (.istore 4, 2) := by decide +kernel
theorem dX7_toBits_27 : decode cX7_toBits 27 = .ok (.lconst 1, 1) := by decide +kernel
theorem dX7_toBits_28 : decode cX7_toBits 28 = .ok (.iload_n 3, 1) := by decide +kernel
theorem dX7_toBits_29 : decode cX7_toBits 29 = .ok (.lshl, 1) := by decide +kernel
theorem dX7_toBits_30 : decode cX7_toBits 30 = .ok (.l2d, 1) := by decide +kernel
theorem dX7_toBits_31 : decode cX7_toBits 31 = .ok (.dstore 5, 2) := by decide +kernel
theorem dX7_toBits_33 : decode cX7_toBits 33 = .ok (.dload_n 1, 1) := by decide +kernel
theorem dX7_toBits_34 : decode cX7_toBits 34 = .ok (.invokestatic 23, 3) := by decide +kernel
theorem dX7_toBits_37 : decode cX7_toBits 37 = .ok (.dstore 7, 2) := by decide +kernel
theorem dX7_toBits_39 : decode cX7_toBits 39 = .ok (.iload_n 0, 1) := by decide +kernel
theorem dX7_toBits_40 : decode cX7_toBits 40 = .ok (.ifCond .eq 9, 3) := by decide +kernel
theorem dX7_toBits_43 : decode cX7_toBits 43 = .ok (.sipush 1075, 3) := by decide +kernel
theorem dX7_toBits_46 : decode cX7_toBits 46 = .ok (.goto 6, 3) := by decide +kernel
theorem dX7_toBits_49 : decode cX7_toBits 49 = .ok (.sipush 150, 3) := by decide +kernel
theorem dX7_toBits_52 : decode cX7_toBits 52 = .ok (.istore 9, 2) := by decide +kernel
theorem dX7_toBits_54 : decode cX7_toBits 54 = .ok (.bipush 32, 2) := by decide +kernel
theorem dX7_toBits_56 : decode cX7_toBits 56 = .ok (.istore 10, 2) := by decide +kernel
theorem dX7_toBits_58 : decode cX7_toBits 58 = .ok (.iload 10, 2) := by decide +kernel
theorem dX7_toBits_60 : decode cX7_toBits 60 = .ok (.ifCond .le 96, 3) := by decide +kernel
theorem dX7_toBits_63 : decode cX7_toBits 63 = .ok (.lconst 1, 1) := by decide +kernel
theorem dX7_toBits_64 : decode cX7_toBits 64 = .ok (.iload 10, 2) := by decide +kernel
theorem dX7_toBits_66 : decode cX7_toBits 66 = .ok (.lshl, 1) := by decide +kernel
theorem dX7_toBits_67 : decode cX7_toBits 67 = .ok (.l2d, 1) := by decide +kernel
theorem dX7_toBits_68 : decode cX7_toBits 68 = .ok (.dstore 11, 2) := by decide +kernel
theorem dX7_toBits_70 : decode cX7_toBits 70 = .ok (.iload 9, 2) := by decide +kernel
theorem dX7_toBits_72 : decode cX7_toBits 72 = .ok (.iload 10, 2) := by decide +kernel
theorem dX7_toBits_74 : decode cX7_toBits 74 = .ok (.if_icmp .le 35, 3) := by decide +kernel
theorem dX7_toBits_77 : decode cX7_toBits 77 = .ok (.dload 7, 2) := by decide +kernel
theorem dX7_toBits_79 : decode cX7_toBits 79 = .ok (.dload 5, 2) := by decide +kernel
theorem dX7_toBits_81 : decode cX7_toBits 81 = .ok (.ldc2_w 27, 3) := by decide +kernel
theorem dX7_toBits_84 : decode cX7_toBits 84 = .ok (.dmul, 1) := by decide +kernel
theorem dX7_toBits_85 : decode cX7_toBits 85 = .ok (.dload 11, 2) := by decide +kernel
theorem dX7_toBits_87 : decode cX7_toBits 87 = .ok (.ddiv, 1) := by decide +kernel
theorem dX7_toBits_88 : decode cX7_toBits 88 = .ok (.dcmp .g, 1) := by decide +kernel
theorem dX7_toBits_89 : decode cX7_toBits 89 = .ok (.ifCond .ge 20, 3) := by decide +kernel
theorem dX7_toBits_92 : decode cX7_toBits 92 = .ok (.dload 7, 2) := by decide +kernel
theorem dX7_toBits_94 : decode cX7_toBits 94 = .ok (.dload 11, 2) := by decide +kernel
theorem dX7_toBits_96 : decode cX7_toBits 96 = .ok (.dmul, 1) := by decide +kernel
theorem dX7_toBits_97 : decode cX7_toBits 97 = .ok (.dstore 7, 2) := by decide +kernel
theorem dX7_toBits_99 : decode cX7_toBits 99 = .ok (.iload 9, 2) := by decide +kernel
theorem dX7_toBits_101 : decode cX7_toBits 101 = .ok (.iload 10, 2) := by decide +kernel
theorem dX7_toBits_103 : decode cX7_toBits 103 = .ok (.isub, 1) := by decide +kernel
theorem dX7_toBits_104 : decode cX7_toBits 104 = .ok (.istore 9, 2) := by decide +kernel
theorem dX7_toBits_106 : decode cX7_toBits 106 = .ok (.goto (-36), 3) := by decide +kernel
theorem dX7_toBits_109 : decode cX7_toBits 109 = .ok (.iload 9, 2) := by decide +kernel
theorem dX7_toBits_111 : decode cX7_toBits 111 = .ok (.iload 10, 2) := by decide +kernel
theorem dX7_toBits_113 : decode cX7_toBits 113 = .ok (.iadd, 1) := by decide +kernel
theorem dX7_toBits_114 : decode cX7_toBits 114 = .ok (.iload 4, 2) := by decide +kernel
theorem dX7_toBits_116 : decode cX7_toBits 116 = .ok (.if_icmp .ge 31, 3) := by decide +kernel
theorem dX7_toBits_119 : decode cX7_toBits 119 = .ok (.dload 7, 2) := by decide +kernel
theorem dX7_toBits_121 : decode cX7_toBits 121 = .ok (.dload 5, 2) := by decide +kernel
theorem dX7_toBits_123 : decode cX7_toBits 123 = .ok (.dload 11, 2) := by decide +kernel
theorem dX7_toBits_125 : decode cX7_toBits 125 = .ok (.dmul, 1) := by decide +kernel
theorem dX7_toBits_126 : decode cX7_toBits 126 = .ok (.dcmp .l, 1) := by decide +kernel
theorem dX7_toBits_127 : decode cX7_toBits 127 = .ok (.ifCond .lt 20, 3) := by decide +kernel
theorem dX7_toBits_130 : decode cX7_toBits 130 = .ok (.dload 7, 2) := by decide +kernel
theorem dX7_toBits_132 : decode cX7_toBits 132 = .ok (.dload 11, 2) := by decide +kernel
theorem dX7_toBits_134 : decode cX7_toBits 134 = .ok (.ddiv, 1) := by decide +kernel
theorem dX7_toBits_135 : decode cX7_toBits 135 = .ok (.dstore 7, 2) := by decide +kernel
theorem dX7_toBits_137 : decode cX7_toBits 137 = .ok (.iload 9, 2) := by decide +kernel
theorem dX7_toBits_139 : decode cX7_toBits 139 = .ok (.iload 10, 2) := by decide +kernel
theorem dX7_toBits_141 : decode cX7_toBits 141 = .ok (.iadd, 1) := by decide +kernel
theorem dX7_toBits_142 : decode cX7_toBits 142 = .ok (.istore 9, 2) := by decide +kernel
theorem dX7_toBits_144 : decode cX7_toBits 144 = .ok (.goto (-35), 3) := by decide +kernel
theorem dX7_toBits_147 : decode cX7_toBits 147 = .ok (.iload 10, 2) := by decide +kernel
theorem dX7_toBits_149 : decode cX7_toBits 149 = .ok (.iconst 2, 1) := by decide +kernel
theorem dX7_toBits_150 : decode cX7_toBits 150 = .ok (.idiv, 1) := by decide +kernel
theorem dX7_toBits_151 : decode cX7_toBits 151 = .ok (.istore 10, 2) := by decide +kernel
theorem dX7_toBits_153 : decode cX7_toBits 153 = .ok (.goto (-95), 3) := by decide +kernel
theorem dX7_toBits_156 : decode cX7_toBits 156 = .ok (.iload 9, 2) := by decide +kernel
theorem dX7_toBits_158 : decode cX7_toBits 158 = .ok (.iconst 1, 1) := by decide +kernel
theorem dX7_toBits_159 : decode cX7_toBits 159 = .ok (.isub, 1) := by decide +kernel
theorem dX7_toBits_160 : decode cX7_toBits 160 = .ok (.i2l, 1) := by decide +kernel
theorem dX7_toBits_161 : decode cX7_toBits 161 = .ok (.iload_n 3, 1) := by decide +kernel
theorem dX7_toBits_162 : decode cX7_toBits 162 = .ok (.lshl, 1) := by decide +kernel
theorem dX7_toBits_163 : decode cX7_toBits 163 = .ok (.dload 7, 2) := by decide +kernel
theorem dX7_toBits_165 : decode cX7_toBits 165 = .ok (.d2l, 1) := by decide +kernel
theorem dX7_toBits_166 : decode cX7_toBits 166 = .ok (.ladd, 1) := by decide +kernel
theorem dX7_toBits_167 : decode cX7_toBits 167 = .ok (.lstore 10, 2) := by decide +kernel
theorem dX7_toBits_169 : decode cX7_toBits 169 = .ok (.dload_n 1, 1) := by decide +kernel
theorem dX7_toBits_170 : decode cX7_toBits 170 = .ok (.invokestatic 29, 3) := by decide +kernel
theorem dX7_toBits_173 : decode cX7_toBits 173 = .ok (.ifCond .ne 6, 3) := by decide +kernel
theorem dX7_toBits_176 : decode cX7_toBits 176 = .ok (.lload 10, 2) := by decide +kernel
theorem dX7_toBits_178 : decode cX7_toBits 178 = .ok (.lreturn, 1) := by decide +kernel
theorem dX7_toBits_179 : decode cX7_toBits 179 = .ok (.lload 10, 2) := by decide +kernel
theorem dX7_toBits_181 : decode cX7_toBits 181 = .ok (.ldc2_w 33, 3) := by decide +kernel
theorem dX7_toBits_184 : decode cX7_toBits 184 = .ok (.iload_n 0, 1) := by decide +kernel
theorem dX7_toBits_185 : decode cX7_toBits 185 = .ok (.ifCond .eq 8, 3) := by decide +kernel
theorem dX7_toBits_188 : decode cX7_toBits 188 = .ok (.bipush 63, 2) := by decide +kernel
theorem dX7_toBits_190 : decode cX7_toBits 190 = .ok (.goto 5, 3) := by decide +kernel
theorem dX7_toBits_193 : decode cX7_toBits 193 = .ok (.bipush 31, 2) := by decide +kernel
theorem dX7_toBits_195 : decode cX7_toBits 195 = .ok (.lshl, 1) := by decide +kernel
theorem dX7_toBits_196 : decode cX7_toBits 196 = .ok (.lor, 1) := by decide +kernel
theorem dX7_toBits_197 : decode cX7_toBits 197 = .ok (.lreturn, 1) := by decide +kernel
theorem dX7_isNegative_0 : decode cX7_isNegative 0 = .ok (.dload_n 0, 1) := by decide +kernel
theorem dX7_isNegative_1 : decode cX7_isNegative 1 = .ok (.dconst 0, 1) := by decide +kernel
theorem dX7_isNegative_2 : decode cX7_isNegative 2 = .ok (.dcmp .l, 1) := by decide +kernel
theorem dX7_isNegative_3 : decode cX7_isNegative 3 = .ok (.ifCond .ne 19, 3) := by decide +kernel
theorem dX7_isNegative_6 : decode cX7_isNegative 6 = .ok (.dconst 1, 1) := by decide +kernel
theorem dX7_isNegative_7 : decode cX7_isNegative 7 = .ok (.dload_n 0, 1) := by decide +kernel
theorem dX7_isNegative_8 : decode cX7_isNegative 8 = .ok (.ddiv, 1) := by decide +kernel
theorem dX7_isNegative_9 : decode cX7_isNegative 9 = .ok (.dconst 0, 1) := by decide +kernel
theorem dX7_isNegative_10 : decode cX7_isNegative 10 = .ok (.dcmp .g, 1) := by decide +kernel
theorem dX7_isNegative_11 : decode cX7_isNegative 11 = .ok (.ifCond .ge 7, 3) := by decide +kernel
theorem dX7_isNegative_14 : decode cX7_isNegative 14 = .ok (.iconst 1, 1) := by decide +kernel
theorem dX7_isNegative_15 : decode cX7_isNegative 15 = .ok (.goto 18, 3) := by decide +kernel
theorem dX7_isNegative_18 : decode cX7_isNegative 18 = .ok (.iconst 0, 1) := by decide +kernel
theorem dX7_isNegative_19 : decode cX7_isNegative 19 = .ok (.goto 14, 3) := by decide +kernel
theorem dX7_isNegative_22 : decode cX7_isNegative 22 = .ok (.dload_n 0, 1) := by decide +kernel
theorem dX7_isNegative_23 : decode cX7_isNegative 23 = .ok (.dconst 0, 1) := by decide +kernel
theorem dX7_isNegative_24 : decode cX7_isNegative 24 = .ok (.dcmp .g, 1) := by decide +kernel
theorem dX7_isNegative_25 : decode cX7_isNegative 25 = .ok (.ifCond .ge 7, 3) := by decide +kernel
theorem dX7_isNegative_28 : decode cX7_isNegative 28 = .ok (.iconst 1, 1) := by decide +kernel
theorem dX7_isNegative_29 : decode cX7_isNegative 29 = .ok (.goto 4, 3) := by decide +kernel
theorem dX7_isNegative_32 : decode cX7_isNegative 32 = .ok (.iconst 0, 1) := by decide +kernel
theorem dX7_isNegative_33 : decode cX7_isNegative 33 = .ok (.ireturn, 1) := by decide +kernel
theorem dX7_sizeOf_0 : decode cX7_sizeOf 0 = .ok (.dload_n 0, 1) := by decide +kernel
theorem dX7_sizeOf_1 : decode cX7_sizeOf 1 = .ok (.dconst 0, 1) := by decide +kernel
theorem dX7_sizeOf_2 : decode cX7_sizeOf 2 = .ok (.dcmp .g, 1) := by decide +kernel
theorem dX7_sizeOf_3 : decode cX7_sizeOf 3 = .ok (.ifCond .ge 8, 3) := by decide +kernel
theorem dX7_sizeOf_6 : decode cX7_sizeOf 6 = .ok (.dload_n 0, 1) := by decide +kernel
theorem dX7_sizeOf_7 : decode cX7_sizeOf 7 = .ok (.dneg, 1) := by decide +kernel
theorem dX7_sizeOf_8 : decode cX7_sizeOf 8 = .ok (.goto 4, 3) := by decide +kernel
theorem dX7_sizeOf_11 : decode cX7_sizeOf 11 = .ok (.dload_n 0, 1) := by decide +kernel
theorem dX7_sizeOf_12 : decode cX7_sizeOf 12 = .ok (.dreturn, 1) := by decide +kernel
theorem dX7_held_0 : decode cX7_held 0 = .ok (.ldc 35, 2) := by decide +kernel
theorem dX7_held_2 : decode cX7_held 2 = .ok (.fstore_n 2, 1) := by decide +kernel
theorem dX7_held_3 : decode cX7_held 3 = .ok (.dload_n 0, 1) := by decide +kernel
theorem dX7_held_4 : decode cX7_held 4 = .ok (.fload_n 2, 1) := by decide +kernel
theorem dX7_held_5 : decode cX7_held 5 = .ok (.f2d, 1) := by decide +kernel
theorem dX7_held_6 : decode cX7_held 6 = .ok (.dcmp .l, 1) := by decide +kernel
theorem dX7_held_7 : decode cX7_held 7 = .ok (.ifCond .le 5, 3) := by decide +kernel
theorem dX7_held_10 : decode cX7_held 10 = .ok (.fload_n 2, 1) := by decide +kernel
theorem dX7_held_11 : decode cX7_held 11 = .ok (.freturn, 1) := by decide +kernel
theorem dX7_held_12 : decode cX7_held 12 = .ok (.dload_n 0, 1) := by decide +kernel
theorem dX7_held_13 : decode cX7_held 13 = .ok (.fload_n 2, 1) := by decide +kernel
theorem dX7_held_14 : decode cX7_held 14 = .ok (.fneg, 1) := by decide +kernel
theorem dX7_held_15 : decode cX7_held 15 = .ok (.f2d, 1) := by decide +kernel
theorem dX7_held_16 : decode cX7_held 16 = .ok (.dcmp .g, 1) := by decide +kernel
theorem dX7_held_17 : decode cX7_held 17 = .ok (.ifCond .ge 8, 3) := by decide +kernel
theorem dX7_held_20 : decode cX7_held 20 = .ok (.fload_n 2, 1) := by decide +kernel
theorem dX7_held_21 : decode cX7_held 21 = .ok (.fneg, 1) := by decide +kernel
theorem dX7_held_22 : decode cX7_held 22 = .ok (.goto 5, 3) := by decide +kernel
theorem dX7_held_25 : decode cX7_held 25 = .ok (.dload_n 0, 1) := by decide +kernel
theorem dX7_held_26 : decode cX7_held 26 = .ok (.d2f, 1) := by decide +kernel
theorem dX7_held_27 : decode cX7_held 27 = .ok (.freturn, 1) := by decide +kernel
set_option maxRecDepth 20000 in
theorem ggX7_rest_X7_sizeOf : GoodIn wsX7_rest wsX7_sizeOf := goodIn_r _ [5] (by decide +kernel) (by decide +kernel)
set_option maxRecDepth 20000 in
theorem gX7_rest_X7_sizeOf : GoodIn wsX7_rest (va_wsS RX7 23 yX7_sizeOf wsX7_sizeOf) := goodIn_app (goodIn_of _ (by decide +kernel)) ggX7_rest_X7_sizeOf
set_option maxRecDepth 20000 in
theorem ggX7_rest_X7_greatestPart : GoodIn wsX7_rest wsX7_greatestPart := goodIn_r _ [8] (by decide +kernel) (by decide +kernel)
set_option maxRecDepth 20000 in
theorem gX7_rest_X7_greatestPart : GoodIn wsX7_rest (va_wsS RX7 36 yX7_greatestPart wsX7_greatestPart) := goodIn_app (goodIn_of _ (by decide +kernel)) ggX7_rest_X7_greatestPart
theorem dX7_rest_0 : decode cX7_rest 0 = .ok (.dload_n 2, 1) := by decide +kernel
theorem dX7_rest_1 : decode cX7_rest 1 = .ok (.invokestatic 23, 3) := by decide +kernel
theorem dX7_rest_4 : decode cX7_rest 4 = .ok (.dstore 4, 2) := by decide +kernel
theorem dX7_rest_6 : decode cX7_rest 6 = .ok (.dload_n 0, 1) := by decide +kernel
theorem dX7_rest_7 : decode cX7_rest 7 = .ok (.invokestatic 23, 3) := by decide +kernel
theorem dX7_rest_10 : decode cX7_rest 10 = .ok (.dstore 6, 2) := by decide +kernel
theorem dX7_rest_12 : decode cX7_rest 12 = .ok (.dload 4, 2) := by decide +kernel
theorem dX7_rest_14 : decode cX7_rest 14 = .ok (.dload 6, 2) := by decide +kernel
theorem dX7_rest_16 : decode cX7_rest 16 = .ok (.invokestatic 36, 3) := by decide +kernel
theorem dX7_rest_19 : decode cX7_rest 19 = .ok (.dstore 8, 2) := by decide +kernel
theorem dX7_rest_21 : decode cX7_rest 21 = .ok (.iconst 0, 1) := by decide +kernel
theorem dX7_rest_22 : decode cX7_rest 22 = .ok (.istore 10, 2) := by decide +kernel
theorem dX7_rest_24 : decode cX7_rest 24 = .ok (.iload 10, 2) := by decide +kernel
theorem dX7_rest_26 : decode cX7_rest 26 = .ok (.sipush 2100, 3) := by decide +kernel
theorem dX7_rest_29 : decode cX7_rest 29 = .ok (.if_icmp .ge 40, 3) := by decide +kernel
theorem dX7_rest_32 : decode cX7_rest 32 = .ok (.dload 6, 2) := by decide +kernel
theorem dX7_rest_34 : decode cX7_rest 34 = .ok (.dload 4, 2) := by decide +kernel
theorem dX7_rest_36 : decode cX7_rest 36 = .ok (.dcmp .l, 1) := by decide +kernel
theorem dX7_rest_37 : decode cX7_rest 37 = .ok (.ifCond .lt 32, 3) := by decide +kernel
theorem dX7_rest_40 : decode cX7_rest 40 = .ok (.dload 6, 2) := by decide +kernel
theorem dX7_rest_42 : decode cX7_rest 42 = .ok (.dload 8, 2) := by decide +kernel
theorem dX7_rest_44 : decode cX7_rest 44 = .ok (.dcmp .l, 1) := by decide +kernel
theorem dX7_rest_45 : decode cX7_rest 45 = .ok (.ifCond .lt 10, 3) := by decide +kernel
theorem dX7_rest_48 : decode cX7_rest 48 = .ok (.dload 6, 2) := by decide +kernel
theorem dX7_rest_50 : decode cX7_rest 50 = .ok (.dload 8, 2) := by decide +kernel
theorem dX7_rest_52 : decode cX7_rest 52 = .ok (.dsub, 1) := by decide +kernel
theorem dX7_rest_53 : decode cX7_rest 53 = .ok (.dstore 6, 2) := by decide +kernel
theorem dX7_rest_55 : decode cX7_rest 55 = .ok (.dload 8, 2) := by decide +kernel
theorem dX7_rest_57 : decode cX7_rest 57 = .ok (.ldc2_w 27, 3) := by decide +kernel
theorem dX7_rest_60 : decode cX7_rest 60 = .ok (.ddiv, 1) := by decide +kernel
theorem dX7_rest_61 : decode cX7_rest 61 = .ok (.dstore 8, 2) := by decide +kernel
theorem dX7_rest_63 : decode cX7_rest 63 = .ok (.iinc 10 1, 3) := by decide +kernel
theorem dX7_rest_66 : decode cX7_rest 66 = .ok (.goto (-42), 3) := by decide +kernel
theorem dX7_rest_69 : decode cX7_rest 69 = .ok (.dload_n 0, 1) := by decide +kernel
theorem dX7_rest_70 : decode cX7_rest 70 = .ok (.dconst 0, 1) := by decide +kernel
theorem dX7_rest_71 : decode cX7_rest 71 = .ok (.dcmp .g, 1) := by decide +kernel
theorem dX7_rest_72 : decode cX7_rest 72 = .ok (.ifCond .ge 9, 3) := by decide +kernel
theorem dX7_rest_75 : decode cX7_rest 75 = .ok (.dload 6, 2) := by decide +kernel
theorem dX7_rest_77 : decode cX7_rest 77 = .ok (.dneg, 1) := by decide +kernel
theorem dX7_rest_78 : decode cX7_rest 78 = .ok (.goto 5, 3) := by decide +kernel
theorem dX7_rest_81 : decode cX7_rest 81 = .ok (.dload 6, 2) := by decide +kernel
theorem dX7_rest_83 : decode cX7_rest 83 = .ok (.dreturn, 1) := by decide +kernel
theorem dX7_greatestPart_0 : decode cX7_greatestPart 0 = .ok (.dload_n 0, 1) := by decide +kernel
theorem dX7_greatestPart_1 : decode cX7_greatestPart 1 = .ok (.dstore 4, 2) := by decide +kernel
theorem dX7_greatestPart_3 : decode cX7_greatestPart 3 = .ok (.bipush 32, 2) := by decide +kernel
theorem dX7_greatestPart_5 : decode cX7_greatestPart 5 = .ok (.istore 6, 2) := by decide +kernel
theorem dX7_greatestPart_7 : decode cX7_greatestPart 7 = .ok (.iload 6, 2) := by decide +kernel
theorem dX7_greatestPart_9 : decode cX7_greatestPart 9 = .ok (.ifCond .le 53, 3) := by decide +kernel
theorem dX7_greatestPart_12 : decode cX7_greatestPart 12 = .ok (.lconst 1, 1) := by decide +kernel
theorem dX7_greatestPart_13 : decode cX7_greatestPart 13 = .ok (.iload 6, 2) := by decide +kernel
theorem dX7_greatestPart_15 : decode cX7_greatestPart 15 = .ok (.lshl, 1) := by decide +kernel
theorem dX7_greatestPart_16 : decode cX7_greatestPart 16 = .ok (.l2d, 1) := by decide +kernel
theorem dX7_greatestPart_17 : decode cX7_greatestPart 17 = .ok (.dstore 7, 2) := by decide +kernel
theorem dX7_greatestPart_19 : decode cX7_greatestPart 19 = .ok (.iconst 0, 1) := by decide +kernel
theorem dX7_greatestPart_20 : decode cX7_greatestPart 20 = .ok (.istore 9, 2) := by decide +kernel
theorem dX7_greatestPart_22 : decode cX7_greatestPart 22 = .ok (.iload 9, 2) := by decide +kernel
theorem dX7_greatestPart_24 : decode cX7_greatestPart 24 = .ok (.sipush 2100, 3) := by decide +kernel
theorem dX7_greatestPart_27 : decode cX7_greatestPart 27 = .ok (.if_icmp .ge 26, 3) := by decide +kernel
theorem dX7_greatestPart_30 : decode cX7_greatestPart 30 = .ok (.dload 4, 2) := by decide +kernel
theorem dX7_greatestPart_32 : decode cX7_greatestPart 32 = .ok (.dload 7, 2) := by decide +kernel
theorem dX7_greatestPart_34 : decode cX7_greatestPart 34 = .ok (.dmul, 1) := by decide +kernel
theorem dX7_greatestPart_35 : decode cX7_greatestPart 35 = .ok (.dload_n 2, 1) := by decide +kernel
theorem dX7_greatestPart_36 : decode cX7_greatestPart 36 = .ok (.dcmp .g, 1) := by decide +kernel
theorem dX7_greatestPart_37 : decode cX7_greatestPart 37 = .ok (.ifCond .gt 16, 3) := by decide +kernel
theorem dX7_greatestPart_40 : decode cX7_greatestPart 40 = .ok (.dload 4, 2) := by decide +kernel
theorem dX7_greatestPart_42 : decode cX7_greatestPart 42 = .ok (.dload 7, 2) := by decide +kernel
theorem dX7_greatestPart_44 : decode cX7_greatestPart 44 = .ok (.dmul, 1) := by decide +kernel
theorem dX7_greatestPart_45 : decode cX7_greatestPart 45 = .ok (.dstore 4, 2) := by decide +kernel
theorem dX7_greatestPart_47 : decode cX7_greatestPart 47 = .ok (.iinc 9 1, 3) := by decide +kernel
theorem dX7_greatestPart_50 : decode cX7_greatestPart 50 = .ok (.goto (-28), 3) := by decide +kernel
theorem dX7_greatestPart_53 : decode cX7_greatestPart 53 = .ok (.iload 6, 2) := by decide +kernel
theorem dX7_greatestPart_55 : decode cX7_greatestPart 55 = .ok (.iconst 2, 1) := by decide +kernel
theorem dX7_greatestPart_56 : decode cX7_greatestPart 56 = .ok (.idiv, 1) := by decide +kernel
theorem dX7_greatestPart_57 : decode cX7_greatestPart 57 = .ok (.istore 6, 2) := by decide +kernel
theorem dX7_greatestPart_59 : decode cX7_greatestPart 59 = .ok (.goto (-52), 3) := by decide +kernel
theorem dX7_greatestPart_62 : decode cX7_greatestPart 62 = .ok (.dload 4, 2) := by decide +kernel
theorem dX7_greatestPart_64 : decode cX7_greatestPart 64 = .ok (.dreturn, 1) := by decide +kernel
theorem dX8_init_0 : decode cX8_init 0 = .ok (.aload_n 0, 1) := by decide +kernel
theorem dX8_init_1 : decode cX8_init 1 = .ok (.invokespecial 3, 3) := by decide +kernel
theorem dX8_init_4 : decode cX8_init 4 = .ok (.aload_n 0, 1) := by decide +kernel
theorem dX8_init_5 : decode cX8_init 5 = .ok (.iload_n 1, 1) := by decide +kernel
theorem dX8_init_6 : decode cX8_init 6 = .ok (.putfield 9, 3) := by decide +kernel
theorem dX8_init_9 : decode cX8_init 9 = .ok (.aload_n 0, 1) := by decide +kernel
theorem dX8_init_10 : decode cX8_init 10 = .ok (.iconst 3, 1) := by decide +kernel
theorem dX8_init_11 : decode cX8_init 11 = .ok (.anewarray 15, 3) := by decide +kernel
theorem dX8_init_14 : decode cX8_init 14 = .ok (.putfield 17, 3) := by decide +kernel
theorem dX8_init_17 : decode cX8_init 17 = .ok (.return_, 1) := by decide +kernel
theorem dX8_hasBarePlace_0 : decode cX8_hasBarePlace 0 = .ok (.iconst 0, 1) := by decide +kernel
theorem dX8_hasBarePlace_1 : decode cX8_hasBarePlace 1 = .ok (.istore_n 1, 1) := by decide +kernel
theorem dX8_hasBarePlace_2 : decode cX8_hasBarePlace 2 = .ok (.iload_n 1, 1) := by decide +kernel
theorem dX8_hasBarePlace_3 : decode cX8_hasBarePlace 3 = .ok (.aload_n 0, 1) := by decide +kernel
theorem dX8_hasBarePlace_4 : decode cX8_hasBarePlace 4 = .ok (.getfield 17, 3) := by decide +kernel
theorem dX8_hasBarePlace_7 : decode cX8_hasBarePlace 7 = .ok (.arraylength, 1) := by decide +kernel
theorem dX8_hasBarePlace_8 : decode cX8_hasBarePlace 8 = .ok (.if_icmp .ge 20, 3) := by decide +kernel
theorem dX8_hasBarePlace_11 : decode cX8_hasBarePlace 11 = .ok (.aload_n 0, 1) := by decide +kernel
theorem dX8_hasBarePlace_12 : decode cX8_hasBarePlace 12 = .ok (.getfield 17, 3) := by decide +kernel
theorem dX8_hasBarePlace_15 : decode cX8_hasBarePlace 15 = .ok (.iload_n 1, 1) := by decide +kernel
theorem dX8_hasBarePlace_16 : decode cX8_hasBarePlace 16 = .ok (.aaload, 1) := by decide +kernel
theorem dX8_hasBarePlace_17 : decode cX8_hasBarePlace 17 = .ok (.ifnonnull 5, 3) := by decide +kernel
theorem dX8_hasBarePlace_20 : decode cX8_hasBarePlace 20 = .ok (.iconst 1, 1) := by decide +kernel
theorem dX8_hasBarePlace_21 : decode cX8_hasBarePlace 21 = .ok (.ireturn, 1) := by decide +kernel
theorem dX8_hasBarePlace_22 : decode cX8_hasBarePlace 22 = .ok (.iinc 1 1, 3) := by decide +kernel
theorem dX8_hasBarePlace_25 : decode cX8_hasBarePlace 25 = .ok (.goto (-23), 3) := by decide +kernel
theorem dX8_hasBarePlace_28 : decode cX8_hasBarePlace 28 = .ok (.iconst 0, 1) := by decide +kernel
theorem dX8_hasBarePlace_29 : decode cX8_hasBarePlace 29 = .ok (.ireturn, 1) := by decide +kernel
set_option maxRecDepth 20000 in
theorem ggX8_heldFrom_X2_heldFrom : GoodIn wsX8_heldFrom wsX2_heldFrom := goodIn_r _ [7, 8, 9, 10, 11, 12, 13, 14, 15, 16, 17, 18, 19, 20, 21, 22, 23, 24, 25, 26, 27, 28, 29, 30, 31, 32, 33, 34, 35, 36, 37, 38, 39, 40, 41, 42, 43, 44, 45, 46, 47, 48, 49, 50, 55, 56, 57] (by decide +kernel) (by decide +kernel)
set_option maxRecDepth 20000 in
theorem gX8_heldFrom_X2_heldFrom_u21X0 : GoodIn wsX8_heldFrom (va_wsU RX8 21 RX0 "LoopMixer$Effect" ⟨"LoopMixer$Effect", "heldFrom", "(F)F"⟩ yX2_heldFrom wsX2_heldFrom) := goodIn_app (goodIn_of _ (by decide +kernel)) ggX8_heldFrom_X2_heldFrom
set_option maxRecDepth 20000 in
theorem gX8_heldFrom_X2_heldFrom_u21X4 : GoodIn wsX8_heldFrom (va_wsU RX8 21 RX4 "LoopMixer$Effect" ⟨"LoopMixer$Effect", "heldFrom", "(F)F"⟩ yX2_heldFrom wsX2_heldFrom) := goodIn_app (goodIn_of _ (by decide +kernel)) ggX8_heldFrom_X2_heldFrom
set_option maxRecDepth 20000 in
theorem gX8_heldFrom_X2_heldFrom_u21X5 : GoodIn wsX8_heldFrom (va_wsU RX8 21 RX5 "LoopMixer$Effect" ⟨"LoopMixer$Effect", "heldFrom", "(F)F"⟩ yX2_heldFrom wsX2_heldFrom) := goodIn_app (goodIn_of _ (by decide +kernel)) ggX8_heldFrom_X2_heldFrom
theorem dX8_heldFrom_0 : decode cX8_heldFrom 0 = .ok (.fload_n 1, 1) := by decide +kernel
theorem dX8_heldFrom_1 : decode cX8_heldFrom 1 = .ok (.fstore_n 2, 1) := by decide +kernel
theorem dX8_heldFrom_2 : decode cX8_heldFrom 2 = .ok (.iconst 0, 1) := by decide +kernel
theorem dX8_heldFrom_3 : decode cX8_heldFrom 3 = .ok (.istore_n 3, 1) := by decide +kernel
theorem dX8_heldFrom_4 : decode cX8_heldFrom 4 = .ok (.iload_n 3, 1) := by decide +kernel
theorem dX8_heldFrom_5 : decode cX8_heldFrom 5 = .ok (.aload_n 0, 1) := by decide +kernel
theorem dX8_heldFrom_6 : decode cX8_heldFrom 6 = .ok (.getfield 17, 3) := by decide +kernel
theorem dX8_heldFrom_9 : decode cX8_heldFrom 9 = .ok (.arraylength, 1) := by decide +kernel
theorem dX8_heldFrom_10 : decode cX8_heldFrom 10 = .ok (.if_icmp .ge 29, 3) := by decide +kernel
theorem dX8_heldFrom_13 : decode cX8_heldFrom 13 = .ok (.aload_n 0, 1) := by decide +kernel
theorem dX8_heldFrom_14 : decode cX8_heldFrom 14 = .ok (.getfield 17, 3) := by decide +kernel
theorem dX8_heldFrom_17 : decode cX8_heldFrom 17 = .ok (.iload_n 3, 1) := by decide +kernel
theorem dX8_heldFrom_18 : decode cX8_heldFrom 18 = .ok (.aaload, 1) := by decide +kernel
theorem dX8_heldFrom_19 : decode cX8_heldFrom 19 = .ok (.astore 4, 2) := by decide +kernel
theorem dX8_heldFrom_21 : decode cX8_heldFrom 21 = .ok (.aload 4, 2) := by decide +kernel
theorem dX8_heldFrom_23 : decode cX8_heldFrom 23 = .ok (.ifnull 10, 3) := by decide +kernel
theorem dX8_heldFrom_26 : decode cX8_heldFrom 26 = .ok (.aload 4, 2) := by decide +kernel
theorem dX8_heldFrom_28 : decode cX8_heldFrom 28 = .ok (.fload_n 2, 1) := by decide +kernel
theorem dX8_heldFrom_29 : decode cX8_heldFrom 29 = .ok (.invokevirtual 21, 3) := by decide +kernel
theorem dX8_heldFrom_32 : decode cX8_heldFrom 32 = .ok (.fstore_n 2, 1) := by decide +kernel
theorem dX8_heldFrom_33 : decode cX8_heldFrom 33 = .ok (.iinc 3 1, 3) := by decide +kernel
theorem dX8_heldFrom_36 : decode cX8_heldFrom 36 = .ok (.goto (-32), 3) := by decide +kernel
theorem dX8_heldFrom_39 : decode cX8_heldFrom 39 = .ok (.fload_n 2, 1) := by decide +kernel
theorem dX8_heldFrom_40 : decode cX8_heldFrom 40 = .ok (.freturn, 1) := by decide +kernel
theorem dX9_init_0 : decode cX9_init 0 = .ok (.aload_n 0, 1) := by decide +kernel
theorem dX9_init_1 : decode cX9_init 1 = .ok (.invokespecial 1, 3) := by decide +kernel
theorem dX9_init_4 : decode cX9_init 4 = .ok (.return_, 1) := by decide +kernel
theorem dX10_init_0 : decode cX10_init 0 = .ok (.aload_n 0, 1) := by decide +kernel
theorem dX10_init_1 : decode cX10_init 1 = .ok (.invokespecial 1, 3) := by decide +kernel
theorem dX10_init_4 : decode cX10_init 4 = .ok (.aload_n 0, 1) := by decide +kernel
theorem dX10_init_5 : decode cX10_init 5 = .ok (.bipush 6, 2) := by decide +kernel
theorem dX10_init_7 : decode cX10_init 7 = .ok (.anewarray 9, 3) := by decide +kernel
theorem dX10_init_10 : decode cX10_init 10 = .ok (.putfield 11, 3) := by decide +kernel
theorem dX10_init_13 : decode cX10_init 13 = .ok (.aload_n 0, 1) := by decide +kernel
theorem dX10_init_14 : decode cX10_init 14 = .ok (.bipush 6, 2) := by decide +kernel
theorem dX10_init_16 : decode cX10_init 16 = .ok (.anewarray 9, 3) := by decide +kernel
theorem dX10_init_19 : decode cX10_init 19 = .ok (.putfield 15, 3) := by decide +kernel
theorem dX10_init_22 : decode cX10_init 22 = .ok (.aload_n 0, 1) := by decide +kernel
theorem dX10_init_23 : decode cX10_init 23 = .ok (.bipush 6, 2) := by decide +kernel
theorem dX10_init_25 : decode cX10_init 25 = .ok (.anewarray 18, 3) := by decide +kernel
theorem dX10_init_28 : decode cX10_init 28 = .ok (.putfield 20, 3) := by decide +kernel
theorem dX10_init_31 : decode cX10_init 31 = .ok (.aload_n 0, 1) := by decide +kernel
theorem dX10_init_32 : decode cX10_init 32 = .ok (.iconst 3, 1) := by decide +kernel
theorem dX10_init_33 : decode cX10_init 33 = .ok (.anewarray 24, 3) := by decide +kernel
theorem dX10_init_36 : decode cX10_init 36 = .ok (.putfield 26, 3) := by decide +kernel
theorem dX10_init_39 : decode cX10_init 39 = .ok (.aload_n 0, 1) := by decide +kernel
theorem dX10_init_40 : decode cX10_init 40 = .ok (.iconst 4, 1) := by decide +kernel
theorem dX10_init_41 : decode cX10_init 41 = .ok (.anewarray 30, 3) := by decide +kernel
theorem dX10_init_44 : decode cX10_init 44 = .ok (.putfield 32, 3) := by decide +kernel
theorem dX10_init_47 : decode cX10_init 47 = .ok (.aload_n 0, 1) := by decide +kernel
theorem dX10_init_48 : decode cX10_init 48 = .ok (.bipush 8, 2) := by decide +kernel
theorem dX10_init_50 : decode cX10_init 50 = .ok (.newarray .float, 2) := by decide +kernel
theorem dX10_init_52 : decode cX10_init 52 = .ok (.putfield 36, 3) := by decide +kernel
theorem dX10_init_55 : decode cX10_init 55 = .ok (.return_, 1) := by decide +kernel
set_option maxRecDepth 20000 in
theorem ggX10_row_X10_isBelow : GoodIn wsX10_row wsX10_isBelow := goodIn_r _ [12] (by decide +kernel) (by decide +kernel)
set_option maxRecDepth 20000 in
theorem gX10_row_X10_isBelow : GoodIn wsX10_row (va_wsS RX10 40 yX10_isBelow wsX10_isBelow) := goodIn_app (goodIn_of _ (by decide +kernel)) ggX10_row_X10_isBelow
set_option maxRecDepth 20000 in
theorem ggX10_row_X1_init : GoodIn wsX10_row wsX1_init := goodIn_r _ [15, 16, 17, 18, 19, 20, 21, 22, 23, 38] (by decide +kernel) (by decide +kernel)
set_option maxRecDepth 20000 in
theorem gX10_row_X1_init : GoodIn wsX10_row (wsX1_init) := ggX10_row_X1_init
set_option maxRecDepth 20000 in
theorem ggX10_row_X3_init : GoodIn wsX10_row wsX3_init := goodIn_r _ [26, 27, 28, 18, 19, 20, 21, 22, 23, 39] (by decide +kernel) (by decide +kernel)
set_option maxRecDepth 20000 in
theorem gX10_row_X3_init : GoodIn wsX10_row (wsX3_init) := ggX10_row_X3_init
theorem dX10_row_0 : decode cX10_row 0 = .ok (.iload_n 2, 1) := by decide +kernel
theorem dX10_row_1 : decode cX10_row 1 = .ok (.bipush 6, 2) := by decide +kernel
theorem dX10_row_3 : decode cX10_row 3 = .ok (.invokestatic 40, 3) := by decide +kernel
theorem dX10_row_6 : decode cX10_row 6 = .ok (.ifCond .eq 13, 3) := by decide +kernel
theorem dX10_row_9 : decode cX10_row 9 = .ok (.iload_n 3, 1) := by decide +kernel
theorem dX10_row_10 : decode cX10_row 10 = .ok (.ifCond .lt 9, 3) := by decide +kernel
theorem dX10_row_13 : decode cX10_row 13 = .ok (.iload_n 3, 1) := by decide +kernel
theorem dX10_row_14 : decode cX10_row 14 = .ok (.bipush 16, 2) := by decide +kernel
theorem dX10_row_16 : decode cX10_row 16 = .ok (.if_icmp .le 5, 3) := by decide +kernel
theorem dX10_row_19 : decode cX10_row 19 = .ok (.iconst (-1), 1) := by decide +kernel
theorem dX10_row_20 : decode cX10_row 20 = .ok (.ireturn, 1) := by decide +kernel
theorem dX10_row_21 : decode cX10_row 21 = .ok (.iload_n 1, 1) := by decide +kernel
theorem dX10_row_22 : decode cX10_row 22 = .ok (.ifCond .eq 20, 3) := by decide +kernel
theorem dX10_row_25 : decode cX10_row 25 = .ok (.aload_n 0, 1) := by decide +kernel
theorem dX10_row_26 : decode cX10_row 26 = .ok (.getfield 15, 3) := by decide +kernel
theorem dX10_row_29 : decode cX10_row 29 = .ok (.iload_n 2, 1) := by decide +kernel
theorem dX10_row_30 : decode cX10_row 30 = .ok (.new 44, 3) := by decide +kernel
theorem dX10_row_33 : decode cX10_row 33 = .ok (.dup, 1) := by decide +kernel
theorem dX10_row_34 : decode cX10_row 34 = .ok (.iload_n 3, 1) := by decide +kernel
theorem dX10_row_35 : decode cX10_row 35 = .ok (.invokespecial 46, 3) := by decide +kernel
theorem dX10_row_38 : decode cX10_row 38 = .ok (.aastore, 1) := by decide +kernel
theorem dX10_row_39 : decode cX10_row 39 = .ok (.goto 17, 3) := by decide +kernel
theorem dX10_row_42 : decode cX10_row 42 = .ok (.aload_n 0, 1) := by decide +kernel
theorem dX10_row_43 : decode cX10_row 43 = .ok (.getfield 11, 3) := by decide +kernel
theorem dX10_row_46 : decode cX10_row 46 = .ok (.iload_n 2, 1) := by decide +kernel
theorem dX10_row_47 : decode cX10_row 47 = .ok (.new 49, 3) := by decide +kernel
theorem dX10_row_50 : decode cX10_row 50 = .ok (.dup, 1) := by decide +kernel
theorem dX10_row_51 : decode cX10_row 51 = .ok (.iload_n 3, 1) := by decide +kernel
theorem dX10_row_52 : decode cX10_row 52 = .ok (.invokespecial 51, 3) := by decide +kernel
theorem dX10_row_55 : decode cX10_row 55 = .ok (.aastore, 1) := by decide +kernel
theorem dX10_row_56 : decode cX10_row 56 = .ok (.iconst 1, 1) := by decide +kernel
theorem dX10_row_57 : decode cX10_row 57 = .ok (.ireturn, 1) := by decide +kernel
set_option maxRecDepth 20000 in
theorem ggX10_share_X10_isBelow : GoodIn wsX10_share wsX10_isBelow := goodIn_r _ [4] (by decide +kernel) (by decide +kernel)
set_option maxRecDepth 20000 in
theorem gX10_share_X10_isBelow : GoodIn wsX10_share (va_wsS RX10 40 yX10_isBelow wsX10_isBelow) := goodIn_app (goodIn_of _ (by decide +kernel)) ggX10_share_X10_isBelow
set_option maxRecDepth 20000 in
theorem ggX10_share_X10_rowsOf : GoodIn wsX10_share wsX10_rowsOf := goodIn_r _ [8, 9, 10, 11, 12, 13, 14, 15, 16, 17, 18, 19] (by decide +kernel) (by decide +kernel)
set_option maxRecDepth 20000 in
theorem gX10_share_X10_rowsOf : GoodIn wsX10_share (wsV RX10 52 RX10 yX10_rowsOf wsX10_rowsOf) := goodIn_app (goodIn_of _ (by decide +kernel)) ggX10_share_X10_rowsOf
theorem dX10_share_0 : decode cX10_share 0 = .ok (.iload_n 2, 1) := by decide +kernel
theorem dX10_share_1 : decode cX10_share 1 = .ok (.bipush 6, 2) := by decide +kernel
theorem dX10_share_3 : decode cX10_share 3 = .ok (.invokestatic 40, 3) := by decide +kernel
theorem dX10_share_6 : decode cX10_share 6 = .ok (.ifCond .eq 12, 3) := by decide +kernel
theorem dX10_share_9 : decode cX10_share 9 = .ok (.iload_n 3, 1) := by decide +kernel
theorem dX10_share_10 : decode cX10_share 10 = .ok (.bipush 6, 2) := by decide +kernel
theorem dX10_share_12 : decode cX10_share 12 = .ok (.invokestatic 40, 3) := by decide +kernel
theorem dX10_share_15 : decode cX10_share 15 = .ok (.ifCond .ne 5, 3) := by decide +kernel
theorem dX10_share_18 : decode cX10_share 18 = .ok (.iconst (-1), 1) := by decide +kernel
theorem dX10_share_19 : decode cX10_share 19 = .ok (.ireturn, 1) := by decide +kernel
theorem dX10_share_20 : decode cX10_share 20 = .ok (.aload_n 0, 1) := by decide +kernel
theorem dX10_share_21 : decode cX10_share 21 = .ok (.iload_n 1, 1) := by decide +kernel
theorem dX10_share_22 : decode cX10_share 22 = .ok (.invokevirtual 52, 3) := by decide +kernel
theorem dX10_share_25 : decode cX10_share 25 = .ok (.astore 4, 2) := by decide +kernel
theorem dX10_share_27 : decode cX10_share 27 = .ok (.aload 4, 2) := by decide +kernel
theorem dX10_share_29 : decode cX10_share 29 = .ok (.iload_n 3, 1) := by decide +kernel
theorem dX10_share_30 : decode cX10_share 30 = .ok (.aload 4, 2) := by decide +kernel
theorem dX10_share_32 : decode cX10_share 32 = .ok (.iload_n 2, 1) := by decide +kernel
theorem dX10_share_33 : decode cX10_share 33 = .ok (.aaload, 1) := by decide +kernel
theorem dX10_share_34 : decode cX10_share 34 = .ok (.aastore, 1) := by decide +kernel
theorem dX10_share_35 : decode cX10_share 35 = .ok (.aload 4, 2) := by decide +kernel
theorem dX10_share_37 : decode cX10_share 37 = .ok (.iload_n 3, 1) := by decide +kernel
theorem dX10_share_38 : decode cX10_share 38 = .ok (.aaload, 1) := by decide +kernel
theorem dX10_share_39 : decode cX10_share 39 = .ok (.ifnonnull 7, 3) := by decide +kernel
theorem dX10_share_42 : decode cX10_share 42 = .ok (.iconst 0, 1) := by decide +kernel
theorem dX10_share_43 : decode cX10_share 43 = .ok (.goto 4, 3) := by decide +kernel
theorem dX10_share_46 : decode cX10_share 46 = .ok (.iconst 1, 1) := by decide +kernel
theorem dX10_share_47 : decode cX10_share 47 = .ok (.ireturn, 1) := by decide +kernel
set_option maxRecDepth 20000 in
theorem ggX10_drop_X10_isBelow : GoodIn wsX10_drop wsX10_isBelow := goodIn_r _ [4] (by decide +kernel) (by decide +kernel)
set_option maxRecDepth 20000 in
theorem gX10_drop_X10_isBelow : GoodIn wsX10_drop (va_wsS RX10 40 yX10_isBelow wsX10_isBelow) := goodIn_app (goodIn_of _ (by decide +kernel)) ggX10_drop_X10_isBelow
set_option maxRecDepth 20000 in
theorem ggX10_drop_X10_rowsOf : GoodIn wsX10_drop wsX10_rowsOf := goodIn_r _ [8, 9, 10, 11, 12, 13, 14, 15, 16, 17, 18, 19] (by decide +kernel) (by decide +kernel)
set_option maxRecDepth 20000 in
theorem gX10_drop_X10_rowsOf : GoodIn wsX10_drop (wsV RX10 52 RX10 yX10_rowsOf wsX10_rowsOf) := goodIn_app (goodIn_of _ (by decide +kernel)) ggX10_drop_X10_rowsOf
theorem dX10_drop_0 : decode cX10_drop 0 = .ok (.iload_n 2, 1) := by decide +kernel
theorem dX10_drop_1 : decode cX10_drop 1 = .ok (.bipush 6, 2) := by decide +kernel
theorem dX10_drop_3 : decode cX10_drop 3 = .ok (.invokestatic 40, 3) := by decide +kernel
theorem dX10_drop_6 : decode cX10_drop 6 = .ok (.ifCond .ne 5, 3) := by decide +kernel
theorem dX10_drop_9 : decode cX10_drop 9 = .ok (.iconst (-1), 1) := by decide +kernel
theorem dX10_drop_10 : decode cX10_drop 10 = .ok (.ireturn, 1) := by decide +kernel
theorem dX10_drop_11 : decode cX10_drop 11 = .ok (.aload_n 0, 1) := by decide +kernel
theorem dX10_drop_12 : decode cX10_drop 12 = .ok (.iload_n 1, 1) := by decide +kernel
theorem dX10_drop_13 : decode cX10_drop 13 = .ok (.invokevirtual 52, 3) := by decide +kernel
theorem dX10_drop_16 : decode cX10_drop 16 = .ok (.astore_n 3, 1) := by decide +kernel
theorem dX10_drop_17 : decode cX10_drop 17 = .ok (.aload_n 3, 1) := by decide +kernel
theorem dX10_drop_18 : decode cX10_drop 18 = .ok (.iload_n 2, 1) := by decide +kernel
theorem dX10_drop_19 : decode cX10_drop 19 = .ok (.aaload, 1) := by decide +kernel
theorem dX10_drop_20 : decode cX10_drop 20 = .ok (.ifnonnull 7, 3) := by decide +kernel
theorem dX10_drop_23 : decode cX10_drop 23 = .ok (.iconst 0, 1) := by decide +kernel
theorem dX10_drop_24 : decode cX10_drop 24 = .ok (.goto 4, 3) := by decide +kernel
theorem dX10_drop_27 : decode cX10_drop 27 = .ok (.iconst 1, 1) := by decide +kernel
theorem dX10_drop_28 : decode cX10_drop 28 = .ok (.istore 4, 2) := by decide +kernel
theorem dX10_drop_30 : decode cX10_drop 30 = .ok (.aload_n 3, 1) := by decide +kernel
theorem dX10_drop_31 : decode cX10_drop 31 = .ok (.iload_n 2, 1) := by decide +kernel
theorem dX10_drop_32 : decode cX10_drop 32 = .ok (.aconst_null, 1) := by decide +kernel
theorem dX10_drop_33 : decode cX10_drop 33 = .ok (.aastore, 1) := by decide +kernel
theorem dX10_drop_34 : decode cX10_drop 34 = .ok (.iload 4, 2) := by decide +kernel
theorem dX10_drop_36 : decode cX10_drop 36 = .ok (.ireturn, 1) := by decide +kernel
set_option maxRecDepth 20000 in
theorem ggX10_set_X10_isBelow : GoodIn wsX10_set wsX10_isBelow := goodIn_r _ [4] (by decide +kernel) (by decide +kernel)
set_option maxRecDepth 20000 in
theorem gX10_set_X10_isBelow : GoodIn wsX10_set (va_wsS RX10 40 yX10_isBelow wsX10_isBelow) := goodIn_app (goodIn_of _ (by decide +kernel)) ggX10_set_X10_isBelow
set_option maxRecDepth 20000 in
theorem ggX10_set_X7_isNumber : GoodIn wsX10_set wsX7_isNumber := goodIn_r _ [8, 9, 10, 7, 11] (by decide +kernel) (by decide +kernel)
set_option maxRecDepth 20000 in
theorem gX10_set_X7_isNumber : GoodIn wsX10_set (va_wsS RX10 56 yX7_isNumber wsX7_isNumber) := goodIn_app (goodIn_of _ (by decide +kernel)) ggX10_set_X7_isNumber
set_option maxRecDepth 20000 in
theorem ggX10_set_X10_rowsOf : GoodIn wsX10_set wsX10_rowsOf := goodIn_r _ [15, 16, 17, 54, 55, 56, 57, 58, 59, 60, 61, 62] (by decide +kernel) (by decide +kernel)
set_option maxRecDepth 20000 in
theorem gX10_set_X10_rowsOf : GoodIn wsX10_set (wsV RX10 52 RX10 yX10_rowsOf wsX10_rowsOf) := goodIn_app (goodIn_of _ (by decide +kernel)) ggX10_set_X10_rowsOf
set_option maxRecDepth 20000 in
theorem ggX10_set_X10_itemFailure : GoodIn wsX10_set wsX10_itemFailure := goodIn_r _ [20, 21, 22, 23, 24, 25, 26, 27, 28, 29, 30, 31, 32, 1, 2, 3, 4, 63, 64] (by decide +kernel) (by decide +kernel)
set_option maxRecDepth 20000 in
theorem gX10_set_X10_itemFailure : GoodIn wsX10_set (va_wsS RX10 62 yX10_itemFailure wsX10_itemFailure) := goodIn_app (goodIn_of _ (by decide +kernel)) ggX10_set_X10_itemFailure
set_option maxRecDepth 20000 in
theorem ggX10_set_X10_toldFailure : GoodIn wsX10_set wsX10_toldFailure := goodIn_r _ [35] (by decide +kernel) (by decide +kernel)
set_option maxRecDepth 20000 in
theorem gX10_set_X10_toldFailure : GoodIn wsX10_set (va_wsS RX10 66 yX10_toldFailure wsX10_toldFailure) := goodIn_app (goodIn_of _ (by decide +kernel)) ggX10_set_X10_toldFailure
set_option maxRecDepth 20000 in
theorem ggX10_set_X7_fromBits : GoodIn wsX10_set wsX7_fromBits := goodIn_r _ [38, 39, 40, 41, 42, 9, 10, 7, 11, 43, 44, 45] (by decide +kernel) (by decide +kernel)
set_option maxRecDepth 20000 in
theorem gX10_set_X7_fromBits : GoodIn wsX10_set (va_wsS RX10 70 yX7_fromBits wsX7_fromBits) := goodIn_app (goodIn_of _ (by decide +kernel)) ggX10_set_X7_fromBits
set_option maxRecDepth 20000 in
theorem ggX10_set_X1_put : GoodIn wsX10_set wsX1_put := goodIn_r _ [50, 27, 63] (by decide +kernel) (by decide +kernel)
set_option maxRecDepth 20000 in
theorem gX10_set_X1_put_u74X1 : GoodIn wsX10_set (va_wsU RX10 74 RX1 "LoopMixer$Row" ⟨"LoopMixer$Row", "put", "(ID)V"⟩ yX1_put wsX1_put) := goodIn_app (goodIn_of _ (by decide +kernel)) ggX10_set_X1_put
set_option maxRecDepth 20000 in
theorem ggX10_set_X3_put : GoodIn wsX10_set wsX3_put := goodIn_r _ [53, 32, 64] (by decide +kernel) (by decide +kernel)
set_option maxRecDepth 20000 in
theorem gX10_set_X3_put_u74X3 : GoodIn wsX10_set (va_wsU RX10 74 RX3 "LoopMixer$Row" ⟨"LoopMixer$Row", "put", "(ID)V"⟩ yX3_put wsX3_put) := goodIn_app (goodIn_of _ (by decide +kernel)) ggX10_set_X3_put
theorem dX10_set_0 : decode cX10_set 0 = .ok (.iload_n 2, 1) := by decide +kernel
theorem dX10_set_1 : decode cX10_set 1 = .ok (.bipush 6, 2) := by decide +kernel
theorem dX10_set_3 : decode cX10_set 3 = .ok (.invokestatic 40, 3) := by decide +kernel
theorem dX10_set_6 : decode cX10_set 6 = .ok (.ifCond .eq 12, 3) := by decide +kernel
theorem dX10_set_9 : decode cX10_set 9 = .ok (.iload_n 1, 1) := by decide +kernel
theorem dX10_set_10 : decode cX10_set 10 = .ok (.lload 4, 2) := by decide +kernel
theorem dX10_set_12 : decode cX10_set 12 = .ok (.invokestatic 56, 3) := by decide +kernel
theorem dX10_set_15 : decode cX10_set 15 = .ok (.ifCond .ne 5, 3) := by decide +kernel
theorem dX10_set_18 : decode cX10_set 18 = .ok (.iconst (-1), 1) := by decide +kernel
theorem dX10_set_19 : decode cX10_set 19 = .ok (.ireturn, 1) := by decide +kernel
theorem dX10_set_20 : decode cX10_set 20 = .ok (.aload_n 0, 1) := by decide +kernel
theorem dX10_set_21 : decode cX10_set 21 = .ok (.iload_n 1, 1) := by decide +kernel
theorem dX10_set_22 : decode cX10_set 22 = .ok (.invokevirtual 52, 3) := by decide +kernel
theorem dX10_set_25 : decode cX10_set 25 = .ok (.iload_n 2, 1) := by decide +kernel
theorem dX10_set_26 : decode cX10_set 26 = .ok (.aaload, 1) := by decide +kernel
theorem dX10_set_27 : decode cX10_set 27 = .ok (.astore 6, 2) := by decide +kernel
theorem dX10_set_29 : decode cX10_set 29 = .ok (.aload 6, 2) := by decide +kernel
theorem dX10_set_31 : decode cX10_set 31 = .ok (.iload_n 3, 1) := by decide +kernel
theorem dX10_set_32 : decode cX10_set 32 = .ok (.invokestatic 62, 3) := by decide +kernel
theorem dX10_set_35 : decode cX10_set 35 = .ok (.istore 7, 2) := by decide +kernel
theorem dX10_set_37 : decode cX10_set 37 = .ok (.iload 7, 2) := by decide +kernel
theorem dX10_set_39 : decode cX10_set 39 = .ok (.ifCond .eq 9, 3) := by decide +kernel
theorem dX10_set_42 : decode cX10_set 42 = .ok (.iload 7, 2) := by decide +kernel
theorem dX10_set_44 : decode cX10_set 44 = .ok (.invokestatic 66, 3) := by decide +kernel
theorem dX10_set_47 : decode cX10_set 47 = .ok (.ireturn, 1) := by decide +kernel
theorem dX10_set_48 : decode cX10_set 48 = .ok (.aload 6, 2) := by decide +kernel
theorem dX10_set_50 : decode cX10_set 50 = .ok (.iload_n 3, 1) := by decide +kernel
theorem dX10_set_51 : decode cX10_set 51 = .ok (.iload_n 1, 1) := by decide +kernel
theorem dX10_set_52 : decode cX10_set 52 = .ok (.lload 4, 2) := by decide +kernel
theorem dX10_set_54 : decode cX10_set 54 = .ok (.invokestatic 70, 3) := by decide +kernel
theorem dX10_set_57 : decode cX10_set 57 = .ok (.invokevirtual 74, 3) := by decide +kernel
theorem dX10_set_60 : decode cX10_set 60 = .ok (.iconst 1, 1) := by decide +kernel
theorem dX10_set_61 : decode cX10_set 61 = .ok (.ireturn, 1) := by decide +kernel
set_option maxRecDepth 20000 in
theorem ggX10_get_X10_isBelow : GoodIn wsX10_get wsX10_isBelow := goodIn_r _ [4] (by decide +kernel) (by decide +kernel)
set_option maxRecDepth 20000 in
theorem gX10_get_X10_isBelow : GoodIn wsX10_get (va_wsS RX10 40 yX10_isBelow wsX10_isBelow) := goodIn_app (goodIn_of _ (by decide +kernel)) ggX10_get_X10_isBelow
set_option maxRecDepth 20000 in
theorem ggX10_get_X10_rowsOf : GoodIn wsX10_get wsX10_rowsOf := goodIn_r _ [8, 9, 10, 54, 55, 56, 57, 58, 59, 60, 61, 62] (by decide +kernel) (by decide +kernel)
set_option maxRecDepth 20000 in
theorem gX10_get_X10_rowsOf : GoodIn wsX10_get (wsV RX10 52 RX10 yX10_rowsOf wsX10_rowsOf) := goodIn_app (goodIn_of _ (by decide +kernel)) ggX10_get_X10_rowsOf
set_option maxRecDepth 20000 in
theorem ggX10_get_X10_itemFailure : GoodIn wsX10_get wsX10_itemFailure := goodIn_r _ [13, 14, 15, 16, 17, 18, 19, 20, 21, 22, 23, 24, 25, 1, 2, 3, 4, 63, 64] (by decide +kernel) (by decide +kernel)
set_option maxRecDepth 20000 in
theorem gX10_get_X10_itemFailure : GoodIn wsX10_get (va_wsS RX10 62 yX10_itemFailure wsX10_itemFailure) := goodIn_app (goodIn_of _ (by decide +kernel)) ggX10_get_X10_itemFailure
set_option maxRecDepth 20000 in
theorem ggX10_get_X10_toldFailure : GoodIn wsX10_get wsX10_toldFailure := goodIn_r _ [28] (by decide +kernel) (by decide +kernel)
set_option maxRecDepth 20000 in
theorem gX10_get_X10_toldFailure : GoodIn wsX10_get (va_wsS RX10 66 yX10_toldFailure wsX10_toldFailure) := goodIn_app (goodIn_of _ (by decide +kernel)) ggX10_get_X10_toldFailure
set_option maxRecDepth 20000 in
theorem ggX10_get_X1_item : GoodIn wsX10_get wsX1_item := goodIn_r _ [33, 20, 63] (by decide +kernel) (by decide +kernel)
set_option maxRecDepth 20000 in
theorem gX10_get_X1_item_u78X1 : GoodIn wsX10_get (va_wsU RX10 78 RX1 "LoopMixer$Row" ⟨"LoopMixer$Row", "item", "(I)D"⟩ yX1_item wsX1_item) := goodIn_app (goodIn_of _ (by decide +kernel)) ggX10_get_X1_item
set_option maxRecDepth 20000 in
theorem ggX10_get_X3_item : GoodIn wsX10_get wsX3_item := goodIn_r _ [36, 25, 64] (by decide +kernel) (by decide +kernel)
set_option maxRecDepth 20000 in
theorem gX10_get_X3_item_u78X3 : GoodIn wsX10_get (va_wsU RX10 78 RX3 "LoopMixer$Row" ⟨"LoopMixer$Row", "item", "(I)D"⟩ yX3_item wsX3_item) := goodIn_app (goodIn_of _ (by decide +kernel)) ggX10_get_X3_item
set_option maxRecDepth 20000 in
theorem ggX10_get_X7_toBits : GoodIn wsX10_get wsX7_toBits := goodIn_r _ [40, 41, 42, 43, 44, 39, 45, 46, 47, 48] (by decide +kernel) (by decide +kernel)
set_option maxRecDepth 20000 in
theorem gX10_get_X7_toBits : GoodIn wsX10_get (va_wsS RX10 82 yX7_toBits wsX7_toBits) := goodIn_app (goodIn_of _ (by decide +kernel)) ggX10_get_X7_toBits
set_option maxRecDepth 20000 in
theorem ggX10_get_X10_tell : GoodIn wsX10_get wsX10_tell := goodIn_r _ [52, 53, 54, 55, 56, 57, 58, 59, 60, 61, 62] (by decide +kernel) (by decide +kernel)
set_option maxRecDepth 20000 in
theorem gX10_get_X10_tell : GoodIn wsX10_get (wsV RX10 86 RX10 yX10_tell wsX10_tell) := goodIn_app (goodIn_of _ (by decide +kernel)) ggX10_get_X10_tell
theorem dX10_get_0 : decode cX10_get 0 = .ok (.iload_n 2, 1) := by decide +kernel
theorem dX10_get_1 : decode cX10_get 1 = .ok (.bipush 6, 2) := by decide +kernel
theorem dX10_get_3 : decode cX10_get 3 = .ok (.invokestatic 40, 3) := by decide +kernel
theorem dX10_get_6 : decode cX10_get 6 = .ok (.ifCond .ne 5, 3) := by decide +kernel
theorem dX10_get_9 : decode cX10_get 9 = .ok (.iconst (-1), 1) := by decide +kernel
theorem dX10_get_10 : decode cX10_get 10 = .ok (.ireturn, 1) := by decide +kernel
theorem dX10_get_11 : decode cX10_get 11 = .ok (.aload_n 0, 1) := by decide +kernel
theorem dX10_get_12 : decode cX10_get 12 = .ok (.iload_n 1, 1) := by decide +kernel
theorem dX10_get_13 : decode cX10_get 13 = .ok (.invokevirtual 52, 3) := by decide +kernel
theorem dX10_get_16 : decode cX10_get 16 = .ok (.iload_n 2, 1) := by decide +kernel
theorem dX10_get_17 : decode cX10_get 17 = .ok (.aaload, 1) := by decide +kernel
theorem dX10_get_18 : decode cX10_get 18 = .ok (.astore 4, 2) := by decide +kernel
theorem dX10_get_20 : decode cX10_get 20 = .ok (.aload 4, 2) := by decide +kernel
theorem dX10_get_22 : decode cX10_get 22 = .ok (.iload_n 3, 1) := by decide +kernel
theorem dX10_get_23 : decode cX10_get 23 = .ok (.invokestatic 62, 3) := by decide +kernel
theorem dX10_get_26 : decode cX10_get 26 = .ok (.istore 5, 2) := by decide +kernel
theorem dX10_get_28 : decode cX10_get 28 = .ok (.iload 5, 2) := by decide +kernel
theorem dX10_get_30 : decode cX10_get 30 = .ok (.ifCond .eq 9, 3) := by decide +kernel
theorem dX10_get_33 : decode cX10_get 33 = .ok (.iload 5, 2) := by decide +kernel
theorem dX10_get_35 : decode cX10_get 35 = .ok (.invokestatic 66, 3) := by decide +kernel
theorem dX10_get_38 : decode cX10_get 38 = .ok (.ireturn, 1) := by decide +kernel
theorem dX10_get_39 : decode cX10_get 39 = .ok (.aload_n 0, 1) := by decide +kernel
theorem dX10_get_40 : decode cX10_get 40 = .ok (.iload_n 1, 1) := by decide +kernel
theorem dX10_get_41 : decode cX10_get 41 = .ok (.aload 4, 2) := by decide +kernel
theorem dX10_get_43 : decode cX10_get 43 = .ok (.iload_n 3, 1) := by decide +kernel
theorem dX10_get_44 : decode cX10_get 44 = .ok (.invokevirtual 78, 3) := by decide +kernel
theorem dX10_get_47 : decode cX10_get 47 = .ok (.invokestatic 82, 3) := by decide +kernel
theorem dX10_get_50 : decode cX10_get 50 = .ok (.invokevirtual 86, 3) := by decide +kernel
theorem dX10_get_53 : decode cX10_get 53 = .ok (.ireturn, 1) := by decide +kernel
set_option maxRecDepth 20000 in
theorem ggX10_wrap_X10_isBelow : GoodIn wsX10_wrap wsX10_isBelow := goodIn_r _ [4] (by decide +kernel) (by decide +kernel)
set_option maxRecDepth 20000 in
theorem gX10_wrap_X10_isBelow : GoodIn wsX10_wrap (va_wsS RX10 40 yX10_isBelow wsX10_isBelow) := goodIn_app (goodIn_of _ (by decide +kernel)) ggX10_wrap_X10_isBelow
set_option maxRecDepth 20000 in
theorem ggX10_wrap_X10_rowsOf : GoodIn wsX10_wrap wsX10_rowsOf := goodIn_r _ [8, 9, 10, 56, 57, 58, 59, 60, 61, 62, 63, 64] (by decide +kernel) (by decide +kernel)
set_option maxRecDepth 20000 in
theorem gX10_wrap_X10_rowsOf : GoodIn wsX10_wrap (wsV RX10 52 RX10 yX10_rowsOf wsX10_rowsOf) := goodIn_app (goodIn_of _ (by decide +kernel)) ggX10_wrap_X10_rowsOf
set_option maxRecDepth 20000 in
theorem ggX10_wrap_X10_itemFailure : GoodIn wsX10_wrap wsX10_itemFailure := goodIn_r _ [13, 14, 15, 16, 17, 18, 19, 20, 21, 22, 23, 24, 25, 1, 2, 3, 4, 65, 66] (by decide +kernel) (by decide +kernel)
set_option maxRecDepth 20000 in
theorem gX10_wrap_X10_itemFailure : GoodIn wsX10_wrap (va_wsS RX10 62 yX10_itemFailure wsX10_itemFailure) := goodIn_app (goodIn_of _ (by decide +kernel)) ggX10_wrap_X10_itemFailure
set_option maxRecDepth 20000 in
theorem ggX10_wrap_X10_toldFailure : GoodIn wsX10_wrap wsX10_toldFailure := goodIn_r _ [28] (by decide +kernel) (by decide +kernel)
set_option maxRecDepth 20000 in
theorem gX10_wrap_X10_toldFailure : GoodIn wsX10_wrap (va_wsS RX10 66 yX10_toldFailure wsX10_toldFailure) := goodIn_app (goodIn_of _ (by decide +kernel)) ggX10_wrap_X10_toldFailure
set_option maxRecDepth 20000 in
theorem ggX10_wrap_X1_item : GoodIn wsX10_wrap wsX1_item := goodIn_r _ [33, 20, 65] (by decide +kernel) (by decide +kernel)
set_option maxRecDepth 20000 in
theorem gX10_wrap_X1_item_u78X1 : GoodIn wsX10_wrap (va_wsU RX10 78 RX1 "LoopMixer$Row" ⟨"LoopMixer$Row", "item", "(I)D"⟩ yX1_item wsX1_item) := goodIn_app (goodIn_of _ (by decide +kernel)) ggX10_wrap_X1_item
set_option maxRecDepth 20000 in
theorem ggX10_wrap_X3_item : GoodIn wsX10_wrap wsX3_item := goodIn_r _ [36, 25, 66] (by decide +kernel) (by decide +kernel)
set_option maxRecDepth 20000 in
theorem gX10_wrap_X3_item_u78X3 : GoodIn wsX10_wrap (va_wsU RX10 78 RX3 "LoopMixer$Row" ⟨"LoopMixer$Row", "item", "(I)D"⟩ yX3_item wsX3_item) := goodIn_app (goodIn_of _ (by decide +kernel)) ggX10_wrap_X3_item
set_option maxRecDepth 20000 in
theorem ggX10_wrap_X7_rest : GoodIn wsX10_wrap wsX7_rest := goodIn_r _ [40, 41, 42, 43, 39, 44, 45, 46, 47] (by decide +kernel) (by decide +kernel)
set_option maxRecDepth 20000 in
theorem gX10_wrap_X7_rest : GoodIn wsX10_wrap (va_wsS RX10 90 yX7_rest wsX7_rest) := goodIn_app (goodIn_of _ (by decide +kernel)) ggX10_wrap_X7_rest
set_option maxRecDepth 20000 in
theorem ggX10_wrap_X1_put : GoodIn wsX10_wrap wsX1_put := goodIn_r _ [52, 20, 65] (by decide +kernel) (by decide +kernel)
set_option maxRecDepth 20000 in
theorem gX10_wrap_X1_put_u74X1 : GoodIn wsX10_wrap (va_wsU RX10 74 RX1 "LoopMixer$Row" ⟨"LoopMixer$Row", "put", "(ID)V"⟩ yX1_put wsX1_put) := goodIn_app (goodIn_of _ (by decide +kernel)) ggX10_wrap_X1_put
set_option maxRecDepth 20000 in
theorem ggX10_wrap_X3_put : GoodIn wsX10_wrap wsX3_put := goodIn_r _ [55, 25, 66] (by decide +kernel) (by decide +kernel)
set_option maxRecDepth 20000 in
theorem gX10_wrap_X3_put_u74X3 : GoodIn wsX10_wrap (va_wsU RX10 74 RX3 "LoopMixer$Row" ⟨"LoopMixer$Row", "put", "(ID)V"⟩ yX3_put wsX3_put) := goodIn_app (goodIn_of _ (by decide +kernel)) ggX10_wrap_X3_put
theorem dX10_wrap_0 : decode cX10_wrap 0 = .ok (.iload_n 2, 1) := by decide +kernel
theorem dX10_wrap_1 : decode cX10_wrap 1 = .ok (.bipush 6, 2) := by decide +kernel
theorem dX10_wrap_3 : decode cX10_wrap 3 = .ok (.invokestatic 40, 3) := by decide +kernel
theorem dX10_wrap_6 : decode cX10_wrap 6 = .ok (.ifCond .ne 5, 3) := by decide +kernel
theorem dX10_wrap_9 : decode cX10_wrap 9 = .ok (.iconst (-1), 1) := by decide +kernel
theorem dX10_wrap_10 : decode cX10_wrap 10 = .ok (.ireturn, 1) := by decide +kernel
theorem dX10_wrap_11 : decode cX10_wrap 11 = .ok (.aload_n 0, 1) := by decide +kernel
theorem dX10_wrap_12 : decode cX10_wrap 12 = .ok (.iload_n 1, 1) := by decide +kernel
theorem dX10_wrap_13 : decode cX10_wrap 13 = .ok (.invokevirtual 52, 3) := by decide +kernel
theorem dX10_wrap_16 : decode cX10_wrap 16 = .ok (.iload_n 2, 1) := by decide +kernel
theorem dX10_wrap_17 : decode cX10_wrap 17 = .ok (.aaload, 1) := by decide +kernel
theorem dX10_wrap_18 : decode cX10_wrap 18 = .ok (.astore 5, 2) := by decide +kernel
theorem dX10_wrap_20 : decode cX10_wrap 20 = .ok (.aload 5, 2) := by decide +kernel
theorem dX10_wrap_22 : decode cX10_wrap 22 = .ok (.iload_n 3, 1) := by decide +kernel
theorem dX10_wrap_23 : decode cX10_wrap 23 = .ok (.invokestatic 62, 3) := by decide +kernel
theorem dX10_wrap_26 : decode cX10_wrap 26 = .ok (.istore 6, 2) := by decide +kernel
theorem dX10_wrap_28 : decode cX10_wrap 28 = .ok (.iload 6, 2) := by decide +kernel
theorem dX10_wrap_30 : decode cX10_wrap 30 = .ok (.ifCond .ne 12, 3) := by decide +kernel
theorem dX10_wrap_33 : decode cX10_wrap 33 = .ok (.aload 5, 2) := by decide +kernel
theorem dX10_wrap_35 : decode cX10_wrap 35 = .ok (.iload 4, 2) := by decide +kernel
theorem dX10_wrap_37 : decode cX10_wrap 37 = .ok (.invokestatic 62, 3) := by decide +kernel
theorem dX10_wrap_40 : decode cX10_wrap 40 = .ok (.istore 6, 2) := by decide +kernel
theorem dX10_wrap_42 : decode cX10_wrap 42 = .ok (.iload 6, 2) := by decide +kernel
theorem dX10_wrap_44 : decode cX10_wrap 44 = .ok (.ifCond .eq 9, 3) := by decide +kernel
theorem dX10_wrap_47 : decode cX10_wrap 47 = .ok (.iload 6, 2) := by decide +kernel
theorem dX10_wrap_49 : decode cX10_wrap 49 = .ok (.invokestatic 66, 3) := by decide +kernel
theorem dX10_wrap_52 : decode cX10_wrap 52 = .ok (.ireturn, 1) := by decide +kernel
theorem dX10_wrap_53 : decode cX10_wrap 53 = .ok (.aload 5, 2) := by decide +kernel
theorem dX10_wrap_55 : decode cX10_wrap 55 = .ok (.iload 4, 2) := by decide +kernel
theorem dX10_wrap_57 : decode cX10_wrap 57 = .ok (.invokevirtual 78, 3) := by decide +kernel
theorem dX10_wrap_60 : decode cX10_wrap 60 = .ok (.dstore 7, 2) := by decide +kernel
theorem dX10_wrap_62 : decode cX10_wrap 62 = .ok (.dload 7, 2) := by decide +kernel
theorem dX10_wrap_64 : decode cX10_wrap 64 = .ok (.dconst 0, 1) := by decide +kernel
theorem dX10_wrap_65 : decode cX10_wrap 65 = .ok (.dcmp .l, 1) := by decide +kernel
theorem dX10_wrap_66 : decode cX10_wrap 66 = .ok (.ifCond .ne 8, 3) := by decide +kernel
theorem dX10_wrap_69 : decode cX10_wrap 69 = .ok (.iconst 5, 1) := by decide +kernel
theorem dX10_wrap_70 : decode cX10_wrap 70 = .ok (.invokestatic 66, 3) := by decide +kernel
theorem dX10_wrap_73 : decode cX10_wrap 73 = .ok (.ireturn, 1) := by decide +kernel
theorem dX10_wrap_74 : decode cX10_wrap 74 = .ok (.aload 5, 2) := by decide +kernel
theorem dX10_wrap_76 : decode cX10_wrap 76 = .ok (.iload_n 3, 1) := by decide +kernel
theorem dX10_wrap_77 : decode cX10_wrap 77 = .ok (.aload 5, 2) := by decide +kernel
theorem dX10_wrap_79 : decode cX10_wrap 79 = .ok (.iload_n 3, 1) := by decide +kernel
theorem dX10_wrap_80 : decode cX10_wrap 80 = .ok (.invokevirtual 78, 3) := by decide +kernel
theorem dX10_wrap_83 : decode cX10_wrap 83 = .ok (.dload 7, 2) := by decide +kernel
theorem dX10_wrap_85 : decode cX10_wrap 85 = .ok (.invokestatic 90, 3) := by decide +kernel
theorem dX10_wrap_88 : decode cX10_wrap 88 = .ok (.invokevirtual 74, 3) := by decide +kernel
theorem dX10_wrap_91 : decode cX10_wrap 91 = .ok (.iconst 1, 1) := by decide +kernel
theorem dX10_wrap_92 : decode cX10_wrap 92 = .ok (.ireturn, 1) := by decide +kernel
set_option maxRecDepth 20000 in
theorem ggX10_effect_X10_isBelow : GoodIn wsX10_effect wsX10_isBelow := goodIn_r _ [6] (by decide +kernel) (by decide +kernel)
set_option maxRecDepth 20000 in
theorem gX10_effect_X10_isBelow : GoodIn wsX10_effect (va_wsS RX10 40 yX10_isBelow wsX10_isBelow) := goodIn_app (goodIn_of _ (by decide +kernel)) ggX10_effect_X10_isBelow
set_option maxRecDepth 20000 in
theorem ggX10_effect_X10_isNumberUpTo : GoodIn wsX10_effect wsX10_isNumberUpTo := goodIn_r _ [9, 10, 11, 12, 13, 14, 15, 16, 17, 18, 19, 20, 21, 22, 23, 24, 25, 26] (by decide +kernel) (by decide +kernel)
set_option maxRecDepth 20000 in
theorem gX10_effect_X10_isNumberUpTo : GoodIn wsX10_effect (va_wsS RX10 95 yX10_isNumberUpTo wsX10_isNumberUpTo) := goodIn_app (goodIn_of _ (by decide +kernel)) ggX10_effect_X10_isNumberUpTo
set_option maxRecDepth 20000 in
theorem ggX10_effect_X7_fromBits : GoodIn wsX10_effect wsX7_fromBits := goodIn_r _ [19, 20, 21, 22, 23, 14, 15, 12, 16, 24, 25, 26] (by decide +kernel) (by decide +kernel)
set_option maxRecDepth 20000 in
theorem gX10_effect_X7_fromBits : GoodIn wsX10_effect (va_wsS RX10 70 yX7_fromBits wsX7_fromBits) := goodIn_app (goodIn_of _ (by decide +kernel)) ggX10_effect_X7_fromBits
set_option maxRecDepth 20000 in
theorem ggX10_effect_X10_newEffect : GoodIn wsX10_effect wsX10_newEffect := goodIn_r _ [29, 30, 31, 32, 33, 34, 35, 36, 37, 38, 39, 40, 41, 42, 43, 44, 45, 46, 47, 48, 49, 50, 51, 52, 53, 54, 55, 56, 57, 67, 68, 69] (by decide +kernel) (by decide +kernel)
set_option maxRecDepth 20000 in
theorem gX10_effect_X10_newEffect : GoodIn wsX10_effect (va_wsS RX10 99 yX10_newEffect wsX10_newEffect) := goodIn_app (goodIn_of _ (by decide +kernel)) ggX10_effect_X10_newEffect
theorem dX10_effect_0 : decode cX10_effect 0 = .ok (.iload_n 1, 1) := by decide +kernel
theorem dX10_effect_1 : decode cX10_effect 1 = .ok (.bipush 6, 2) := by decide +kernel
theorem dX10_effect_3 : decode cX10_effect 3 = .ok (.invokestatic 40, 3) := by decide +kernel
theorem dX10_effect_6 : decode cX10_effect 6 = .ok (.ifCond .eq 20, 3) := by decide +kernel
theorem dX10_effect_9 : decode cX10_effect 9 = .ok (.iload_n 2, 1) := by decide +kernel
theorem dX10_effect_10 : decode cX10_effect 10 = .ok (.iconst 3, 1) := by decide +kernel
theorem dX10_effect_11 : decode cX10_effect 11 = .ok (.invokestatic 40, 3) := by decide +kernel
theorem dX10_effect_14 : decode cX10_effect 14 = .ok (.ifCond .eq 12, 3) := by decide +kernel
theorem dX10_effect_17 : decode cX10_effect 17 = .ok (.lload_n 3, 1) := by decide +kernel
theorem dX10_effect_18 : decode cX10_effect 18 = .ok (.ldc 94, 2) := by decide +kernel
theorem dX10_effect_20 : decode cX10_effect 20 = .ok (.invokestatic 95, 3) := by decide +kernel
theorem dX10_effect_23 : decode cX10_effect 23 = .ok (.ifCond .ne 5, 3) := by decide +kernel
theorem dX10_effect_26 : decode cX10_effect 26 = .ok (.iconst (-1), 1) := by decide +kernel
theorem dX10_effect_27 : decode cX10_effect 27 = .ok (.ireturn, 1) := by decide +kernel
theorem dX10_effect_28 : decode cX10_effect 28 = .ok (.aload_n 0, 1) := by decide +kernel
theorem dX10_effect_29 : decode cX10_effect 29 = .ok (.getfield 20, 3) := by decide +kernel
theorem dX10_effect_32 : decode cX10_effect 32 = .ok (.iload_n 1, 1) := by decide +kernel
theorem dX10_effect_33 : decode cX10_effect 33 = .ok (.iload_n 2, 1) := by decide +kernel
theorem dX10_effect_34 : decode cX10_effect 34 = .ok (.iconst 1, 1) := by decide +kernel
theorem dX10_effect_35 : decode cX10_effect 35 = .ok (.lload_n 3, 1) := by decide +kernel
theorem dX10_effect_36 : decode cX10_effect 36 = .ok (.invokestatic 70, 3) := by decide +kernel
theorem dX10_effect_39 : decode cX10_effect 39 = .ok (.invokestatic 99, 3) := by decide +kernel
theorem dX10_effect_42 : decode cX10_effect 42 = .ok (.aastore, 1) := by decide +kernel
theorem dX10_effect_43 : decode cX10_effect 43 = .ok (.iconst 1, 1) := by decide +kernel
theorem dX10_effect_44 : decode cX10_effect 44 = .ok (.ireturn, 1) := by decide +kernel
set_option maxRecDepth 20000 in
theorem ggX10_make_X10_isBelow : GoodIn wsX10_make wsX10_isBelow := goodIn_r _ [5] (by decide +kernel) (by decide +kernel)
set_option maxRecDepth 20000 in
theorem gX10_make_X10_isBelow : GoodIn wsX10_make (va_wsS RX10 40 yX10_isBelow wsX10_isBelow) := goodIn_app (goodIn_of _ (by decide +kernel)) ggX10_make_X10_isBelow
set_option maxRecDepth 20000 in
theorem ggX10_make_X7_isNumber : GoodIn wsX10_make wsX7_isNumber := goodIn_r _ [9, 10, 11, 8, 12] (by decide +kernel) (by decide +kernel)
set_option maxRecDepth 20000 in
theorem gX10_make_X7_isNumber : GoodIn wsX10_make (va_wsS RX10 56 yX7_isNumber wsX7_isNumber) := goodIn_app (goodIn_of _ (by decide +kernel)) ggX10_make_X7_isNumber
set_option maxRecDepth 20000 in
theorem ggX10_make_X10_toldFailure : GoodIn wsX10_make wsX10_toldFailure := goodIn_r _ [15] (by decide +kernel) (by decide +kernel)
set_option maxRecDepth 20000 in
theorem gX10_make_X10_toldFailure : GoodIn wsX10_make (va_wsS RX10 66 yX10_toldFailure wsX10_toldFailure) := goodIn_app (goodIn_of _ (by decide +kernel)) ggX10_make_X10_toldFailure
set_option maxRecDepth 20000 in
theorem ggX10_make_X7_fromBits : GoodIn wsX10_make wsX7_fromBits := goodIn_r _ [18, 19, 20, 21, 22, 10, 11, 8, 12, 23, 24, 25] (by decide +kernel) (by decide +kernel)
set_option maxRecDepth 20000 in
theorem gX10_make_X7_fromBits : GoodIn wsX10_make (va_wsS RX10 70 yX7_fromBits wsX7_fromBits) := goodIn_app (goodIn_of _ (by decide +kernel)) ggX10_make_X7_fromBits
set_option maxRecDepth 20000 in
theorem ggX10_make_X2_heldFrom : GoodIn wsX10_make wsX2_heldFrom := goodIn_r _ [31, 32, 33, 34, 35, 36, 37, 38, 39, 40, 20, 21, 22, 41, 42, 43, 44, 45, 46, 47, 48, 49, 50, 51, 52, 53, 54, 55, 56, 57, 8, 58, 59, 60, 61, 62, 63, 64, 65, 66, 67, 68, 69, 70, 94, 95, 96] (by decide +kernel) (by decide +kernel)
set_option maxRecDepth 20000 in
theorem gX10_make_X2_heldFrom_u103X0 : GoodIn wsX10_make (va_wsU RX10 103 RX0 "LoopMixer$Effect" ⟨"LoopMixer$Effect", "heldFrom", "(F)F"⟩ yX2_heldFrom wsX2_heldFrom) := goodIn_app (goodIn_of _ (by decide +kernel)) ggX10_make_X2_heldFrom
set_option maxRecDepth 20000 in
theorem gX10_make_X2_heldFrom_u103X4 : GoodIn wsX10_make (va_wsU RX10 103 RX4 "LoopMixer$Effect" ⟨"LoopMixer$Effect", "heldFrom", "(F)F"⟩ yX2_heldFrom wsX2_heldFrom) := goodIn_app (goodIn_of _ (by decide +kernel)) ggX10_make_X2_heldFrom
set_option maxRecDepth 20000 in
theorem gX10_make_X2_heldFrom_u103X5 : GoodIn wsX10_make (va_wsU RX10 103 RX5 "LoopMixer$Effect" ⟨"LoopMixer$Effect", "heldFrom", "(F)F"⟩ yX2_heldFrom wsX2_heldFrom) := goodIn_app (goodIn_of _ (by decide +kernel)) ggX10_make_X2_heldFrom
set_option maxRecDepth 20000 in
theorem ggX10_make_X7_toBits : GoodIn wsX10_make wsX7_toBits := goodIn_r _ [75, 59, 76, 60, 61, 8, 62, 77, 78, 79] (by decide +kernel) (by decide +kernel)
set_option maxRecDepth 20000 in
theorem gX10_make_X7_toBits : GoodIn wsX10_make (va_wsS RX10 82 yX7_toBits wsX7_toBits) := goodIn_app (goodIn_of _ (by decide +kernel)) ggX10_make_X7_toBits
set_option maxRecDepth 20000 in
theorem ggX10_make_X10_tell : GoodIn wsX10_make wsX10_tell := goodIn_r _ [83, 84, 85, 86, 87, 88, 89, 90, 91, 92, 93] (by decide +kernel) (by decide +kernel)
set_option maxRecDepth 20000 in
theorem gX10_make_X10_tell : GoodIn wsX10_make (wsV RX10 86 RX10 yX10_tell wsX10_tell) := goodIn_app (goodIn_of _ (by decide +kernel)) ggX10_make_X10_tell
theorem dX10_make_0 : decode cX10_make 0 = .ok (.iload_n 1, 1) := by decide +kernel
theorem dX10_make_1 : decode cX10_make 1 = .ok (.bipush 6, 2) := by decide +kernel
theorem dX10_make_3 : decode cX10_make 3 = .ok (.invokestatic 40, 3) := by decide +kernel
theorem dX10_make_6 : decode cX10_make 6 = .ok (.ifCond .eq 11, 3) := by decide +kernel
theorem dX10_make_9 : decode cX10_make 9 = .ok (.iconst 0, 1) := by decide +kernel
theorem dX10_make_10 : decode cX10_make 10 = .ok (.lload_n 2, 1) := by decide +kernel
theorem dX10_make_11 : decode cX10_make 11 = .ok (.invokestatic 56, 3) := by decide +kernel
theorem dX10_make_14 : decode cX10_make 14 = .ok (.ifCond .ne 5, 3) := by decide +kernel
theorem dX10_make_17 : decode cX10_make 17 = .ok (.iconst (-1), 1) := by decide +kernel
theorem dX10_make_18 : decode cX10_make 18 = .ok (.ireturn, 1) := by decide +kernel
theorem dX10_make_19 : decode cX10_make 19 = .ok (.aload_n 0, 1) := by decide +kernel
theorem dX10_make_20 : decode cX10_make 20 = .ok (.getfield 20, 3) := by decide +kernel
theorem dX10_make_23 : decode cX10_make 23 = .ok (.iload_n 1, 1) := by decide +kernel
theorem dX10_make_24 : decode cX10_make 24 = .ok (.aaload, 1) := by decide +kernel
theorem dX10_make_25 : decode cX10_make 25 = .ok (.astore 4, 2) := by decide +kernel
theorem dX10_make_27 : decode cX10_make 27 = .ok (.aload 4, 2) := by decide +kernel
theorem dX10_make_29 : decode cX10_make 29 = .ok (.ifnonnull 8, 3) := by decide +kernel
theorem dX10_make_32 : decode cX10_make 32 = .ok (.iconst 1, 1) := by decide +kernel
theorem dX10_make_33 : decode cX10_make 33 = .ok (.invokestatic 66, 3) := by decide +kernel
theorem dX10_make_36 : decode cX10_make 36 = .ok (.ireturn, 1) := by decide +kernel
theorem dX10_make_37 : decode cX10_make 37 = .ok (.iconst 0, 1) := by decide +kernel
theorem dX10_make_38 : decode cX10_make 38 = .ok (.lload_n 2, 1) := by decide +kernel
theorem dX10_make_39 : decode cX10_make 39 = .ok (.invokestatic 70, 3) := by decide +kernel
theorem dX10_make_42 : decode cX10_make 42 = .ok (.d2f, 1) := by decide +kernel
theorem dX10_make_43 : decode cX10_make 43 = .ok (.fstore 5, 2) := by decide +kernel
theorem dX10_make_45 : decode cX10_make 45 = .ok (.aload_n 0, 1) := by decide +kernel
theorem dX10_make_46 : decode cX10_make 46 = .ok (.iconst 0, 1) := by decide +kernel
theorem dX10_make_47 : decode cX10_make 47 = .ok (.aload 4, 2) := by decide +kernel
theorem dX10_make_49 : decode cX10_make 49 = .ok (.fload 5, 2) := by decide +kernel
theorem dX10_make_51 : decode cX10_make 51 = .ok (.invokevirtual 103, 3) := by decide +kernel
theorem dX10_make_54 : decode cX10_make 54 = .ok (.f2d, 1) := by decide +kernel
theorem dX10_make_55 : decode cX10_make 55 = .ok (.invokestatic 82, 3) := by decide +kernel
theorem dX10_make_58 : decode cX10_make 58 = .ok (.invokevirtual 86, 3) := by decide +kernel
theorem dX10_make_61 : decode cX10_make 61 = .ok (.ireturn, 1) := by decide +kernel
set_option maxRecDepth 20000 in
theorem ggX10_rack_X10_isBelow : GoodIn wsX10_rack wsX10_isBelow := goodIn_r _ [8] (by decide +kernel) (by decide +kernel)
set_option maxRecDepth 20000 in
theorem gX10_rack_X10_isBelow : GoodIn wsX10_rack (va_wsS RX10 40 yX10_isBelow wsX10_isBelow) := goodIn_app (goodIn_of _ (by decide +kernel)) ggX10_rack_X10_isBelow
set_option maxRecDepth 20000 in
theorem ggX10_rack_X8_init : GoodIn wsX10_rack wsX8_init := goodIn_r _ [11, 12, 13, 14, 15, 16, 17, 27, 28] (by decide +kernel) (by decide +kernel)
set_option maxRecDepth 20000 in
theorem gX10_rack_X8_init : GoodIn wsX10_rack (wsX8_init) := ggX10_rack_X8_init
theorem dX10_rack_0 : decode cX10_rack 0 = .ok (.iload_n 1, 1) := by decide +kernel
theorem dX10_rack_1 : decode cX10_rack 1 = .ok (.iconst 3, 1) := by decide +kernel
theorem dX10_rack_2 : decode cX10_rack 2 = .ok (.invokestatic 40, 3) := by decide +kernel
theorem dX10_rack_5 : decode cX10_rack 5 = .ok (.ifCond .eq 11, 3) := by decide +kernel
theorem dX10_rack_8 : decode cX10_rack 8 = .ok (.iload_n 2, 1) := by decide +kernel
theorem dX10_rack_9 : decode cX10_rack 9 = .ok (.iconst 3, 1) := by decide +kernel
theorem dX10_rack_10 : decode cX10_rack 10 = .ok (.invokestatic 40, 3) := by decide +kernel
theorem dX10_rack_13 : decode cX10_rack 13 = .ok (.ifCond .ne 5, 3) := by decide +kernel
theorem dX10_rack_16 : decode cX10_rack 16 = .ok (.iconst (-1), 1) := by decide +kernel
theorem dX10_rack_17 : decode cX10_rack 17 = .ok (.ireturn, 1) := by decide +kernel
theorem dX10_rack_18 : decode cX10_rack 18 = .ok (.aload_n 0, 1) := by decide +kernel
theorem dX10_rack_19 : decode cX10_rack 19 = .ok (.getfield 26, 3) := by decide +kernel
theorem dX10_rack_22 : decode cX10_rack 22 = .ok (.iload_n 1, 1) := by decide +kernel
theorem dX10_rack_23 : decode cX10_rack 23 = .ok (.new 24, 3) := by decide +kernel
theorem dX10_rack_26 : decode cX10_rack 26 = .ok (.dup, 1) := by decide +kernel
theorem dX10_rack_27 : decode cX10_rack 27 = .ok (.iload_n 2, 1) := by decide +kernel
theorem dX10_rack_28 : decode cX10_rack 28 = .ok (.invokespecial 107, 3) := by decide +kernel
theorem dX10_rack_31 : decode cX10_rack 31 = .ok (.aastore, 1) := by decide +kernel
theorem dX10_rack_32 : decode cX10_rack 32 = .ok (.iconst 1, 1) := by decide +kernel
theorem dX10_rack_33 : decode cX10_rack 33 = .ok (.ireturn, 1) := by decide +kernel
set_option maxRecDepth 20000 in
theorem ggX10_hang_X10_isBelow : GoodIn wsX10_hang wsX10_isBelow := goodIn_r _ [6] (by decide +kernel) (by decide +kernel)
set_option maxRecDepth 20000 in
theorem gX10_hang_X10_isBelow : GoodIn wsX10_hang (va_wsS RX10 40 yX10_isBelow wsX10_isBelow) := goodIn_app (goodIn_of _ (by decide +kernel)) ggX10_hang_X10_isBelow
set_option maxRecDepth 20000 in
theorem ggX10_hang_X10_placeFailure : GoodIn wsX10_hang wsX10_placeFailure := goodIn_r _ [9, 3, 4, 5, 6] (by decide +kernel) (by decide +kernel)
set_option maxRecDepth 20000 in
theorem gX10_hang_X10_placeFailure : GoodIn wsX10_hang (va_wsS RX10 108 yX10_placeFailure wsX10_placeFailure) := goodIn_app (goodIn_of _ (by decide +kernel)) ggX10_hang_X10_placeFailure
set_option maxRecDepth 20000 in
theorem ggX10_hang_X10_toldFailure : GoodIn wsX10_hang wsX10_toldFailure := goodIn_r _ [12] (by decide +kernel) (by decide +kernel)
set_option maxRecDepth 20000 in
theorem gX10_hang_X10_toldFailure : GoodIn wsX10_hang (va_wsS RX10 66 yX10_toldFailure wsX10_toldFailure) := goodIn_app (goodIn_of _ (by decide +kernel)) ggX10_hang_X10_toldFailure
set_option maxRecDepth 20000 in
theorem ggX10_hang_X10_isOf : GoodIn wsX10_hang wsX10_isOf := goodIn_r _ [15, 16, 17, 18, 19, 20, 21, 22, 23, 24, 25, 26, 27, 28, 29, 30, 31, 32] (by decide +kernel) (by decide +kernel)
set_option maxRecDepth 20000 in
theorem gX10_hang_X10_isOf : GoodIn wsX10_hang (va_wsS RX10 116 yX10_isOf wsX10_isOf) := goodIn_app (goodIn_of _ (by decide +kernel)) ggX10_hang_X10_isOf
theorem dX10_hang_0 : decode cX10_hang 0 = .ok (.iload_n 1, 1) := by decide +kernel
theorem dX10_hang_1 : decode cX10_hang 1 = .ok (.iconst 3, 1) := by decide +kernel
theorem dX10_hang_2 : decode cX10_hang 2 = .ok (.invokestatic 40, 3) := by decide +kernel
theorem dX10_hang_5 : decode cX10_hang 5 = .ok (.ifCond .eq 12, 3) := by decide +kernel
theorem dX10_hang_8 : decode cX10_hang 8 = .ok (.iload_n 3, 1) := by decide +kernel
theorem dX10_hang_9 : decode cX10_hang 9 = .ok (.bipush 6, 2) := by decide +kernel
theorem dX10_hang_11 : decode cX10_hang 11 = .ok (.invokestatic 40, 3) := by decide +kernel
theorem dX10_hang_14 : decode cX10_hang 14 = .ok (.ifCond .ne 5, 3) := by decide +kernel
theorem dX10_hang_17 : decode cX10_hang 17 = .ok (.iconst (-1), 1) := by decide +kernel
theorem dX10_hang_18 : decode cX10_hang 18 = .ok (.ireturn, 1) := by decide +kernel
theorem dX10_hang_19 : decode cX10_hang 19 = .ok (.aload_n 0, 1) := by decide +kernel
theorem dX10_hang_20 : decode cX10_hang 20 = .ok (.getfield 26, 3) := by decide +kernel
theorem dX10_hang_23 : decode cX10_hang 23 = .ok (.iload_n 1, 1) := by decide +kernel
theorem dX10_hang_24 : decode cX10_hang 24 = .ok (.aaload, 1) := by decide +kernel
theorem dX10_hang_25 : decode cX10_hang 25 = .ok (.astore 4, 2) := by decide +kernel
theorem dX10_hang_27 : decode cX10_hang 27 = .ok (.aload 4, 2) := by decide +kernel
theorem dX10_hang_29 : decode cX10_hang 29 = .ok (.iload_n 2, 1) := by decide +kernel
theorem dX10_hang_30 : decode cX10_hang 30 = .ok (.invokestatic 108, 3) := by decide +kernel
theorem dX10_hang_33 : decode cX10_hang 33 = .ok (.istore 5, 2) := by decide +kernel
theorem dX10_hang_35 : decode cX10_hang 35 = .ok (.iload 5, 2) := by decide +kernel
theorem dX10_hang_37 : decode cX10_hang 37 = .ok (.ifCond .eq 9, 3) := by decide +kernel
theorem dX10_hang_40 : decode cX10_hang 40 = .ok (.iload 5, 2) := by decide +kernel
theorem dX10_hang_42 : decode cX10_hang 42 = .ok (.invokestatic 66, 3) := by decide +kernel
theorem dX10_hang_45 : decode cX10_hang 45 = .ok (.ireturn, 1) := by decide +kernel
theorem dX10_hang_46 : decode cX10_hang 46 = .ok (.aload_n 0, 1) := by decide +kernel
theorem dX10_hang_47 : decode cX10_hang 47 = .ok (.getfield 20, 3) := by decide +kernel
theorem dX10_hang_50 : decode cX10_hang 50 = .ok (.iload_n 3, 1) := by decide +kernel
theorem dX10_hang_51 : decode cX10_hang 51 = .ok (.aaload, 1) := by decide +kernel
theorem dX10_hang_52 : decode cX10_hang 52 = .ok (.aload 4, 2) := by decide +kernel
theorem dX10_hang_54 : decode cX10_hang 54 = .ok (.getfield 112, 3) := by decide +kernel
theorem dX10_hang_57 : decode cX10_hang 57 = .ok (.invokestatic 116, 3) := by decide +kernel
theorem dX10_hang_60 : decode cX10_hang 60 = .ok (.ifCond .ne 8, 3) := by decide +kernel
theorem dX10_hang_63 : decode cX10_hang 63 = .ok (.iconst 4, 1) := by decide +kernel
theorem dX10_hang_64 : decode cX10_hang 64 = .ok (.invokestatic 66, 3) := by decide +kernel
theorem dX10_hang_67 : decode cX10_hang 67 = .ok (.ireturn, 1) := by decide +kernel
theorem dX10_hang_68 : decode cX10_hang 68 = .ok (.aload 4, 2) := by decide +kernel
theorem dX10_hang_70 : decode cX10_hang 70 = .ok (.getfield 120, 3) := by decide +kernel
theorem dX10_hang_73 : decode cX10_hang 73 = .ok (.iload_n 2, 1) := by decide +kernel
theorem dX10_hang_74 : decode cX10_hang 74 = .ok (.aload_n 0, 1) := by decide +kernel
theorem dX10_hang_75 : decode cX10_hang 75 = .ok (.getfield 20, 3) := by decide +kernel
theorem dX10_hang_78 : decode cX10_hang 78 = .ok (.iload_n 3, 1) := by decide +kernel
theorem dX10_hang_79 : decode cX10_hang 79 = .ok (.aaload, 1) := by decide +kernel
theorem dX10_hang_80 : decode cX10_hang 80 = .ok (.aastore, 1) := by decide +kernel
theorem dX10_hang_81 : decode cX10_hang 81 = .ok (.iconst 1, 1) := by decide +kernel
theorem dX10_hang_82 : decode cX10_hang 82 = .ok (.ireturn, 1) := by decide +kernel
set_option maxRecDepth 20000 in
theorem ggX10_take_X10_isBelow : GoodIn wsX10_take wsX10_isBelow := goodIn_r _ [6] (by decide +kernel) (by decide +kernel)
set_option maxRecDepth 20000 in
theorem gX10_take_X10_isBelow : GoodIn wsX10_take (va_wsS RX10 40 yX10_isBelow wsX10_isBelow) := goodIn_app (goodIn_of _ (by decide +kernel)) ggX10_take_X10_isBelow
set_option maxRecDepth 20000 in
theorem ggX10_take_X10_placeFailure : GoodIn wsX10_take wsX10_placeFailure := goodIn_r _ [9, 3, 4, 5, 6] (by decide +kernel) (by decide +kernel)
set_option maxRecDepth 20000 in
theorem gX10_take_X10_placeFailure : GoodIn wsX10_take (va_wsS RX10 108 yX10_placeFailure wsX10_placeFailure) := goodIn_app (goodIn_of _ (by decide +kernel)) ggX10_take_X10_placeFailure
set_option maxRecDepth 20000 in
theorem ggX10_take_X10_toldFailure : GoodIn wsX10_take wsX10_toldFailure := goodIn_r _ [12] (by decide +kernel) (by decide +kernel)
set_option maxRecDepth 20000 in
theorem gX10_take_X10_toldFailure : GoodIn wsX10_take (va_wsS RX10 66 yX10_toldFailure wsX10_toldFailure) := goodIn_app (goodIn_of _ (by decide +kernel)) ggX10_take_X10_toldFailure
set_option maxRecDepth 20000 in
theorem ggX10_take_X10_isOf : GoodIn wsX10_take wsX10_isOf := goodIn_r _ [15, 16, 17, 18, 19, 20, 21, 22, 23, 24, 25, 26, 27, 28, 29, 30, 31, 32] (by decide +kernel) (by decide +kernel)
set_option maxRecDepth 20000 in
theorem gX10_take_X10_isOf : GoodIn wsX10_take (va_wsS RX10 116 yX10_isOf wsX10_isOf) := goodIn_app (goodIn_of _ (by decide +kernel)) ggX10_take_X10_isOf
theorem dX10_take_0 : decode cX10_take 0 = .ok (.iload_n 1, 1) := by decide +kernel
theorem dX10_take_1 : decode cX10_take 1 = .ok (.iconst 3, 1) := by decide +kernel
theorem dX10_take_2 : decode cX10_take 2 = .ok (.invokestatic 40, 3) := by decide +kernel
theorem dX10_take_5 : decode cX10_take 5 = .ok (.ifCond .eq 21, 3) := by decide +kernel
theorem dX10_take_8 : decode cX10_take 8 = .ok (.iload_n 3, 1) := by decide +kernel
theorem dX10_take_9 : decode cX10_take 9 = .ok (.iconst 3, 1) := by decide +kernel
theorem dX10_take_10 : decode cX10_take 10 = .ok (.invokestatic 40, 3) := by decide +kernel
theorem dX10_take_13 : decode cX10_take 13 = .ok (.ifCond .eq 13, 3) := by decide +kernel
theorem dX10_take_16 : decode cX10_take 16 = .ok (.iload 4, 2) := by decide +kernel
theorem dX10_take_18 : decode cX10_take 18 = .ok (.bipush 6, 2) := by decide +kernel
