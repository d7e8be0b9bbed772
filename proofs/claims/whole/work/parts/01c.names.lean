theorem dX10_take_20 : decode cX10_take 20 = .ok (.invokestatic 40, 3) := by decide +kernel
theorem dX10_take_23 : decode cX10_take 23 = .ok (.ifCond .ne 5, 3) := by decide +kernel
theorem dX10_take_26 : decode cX10_take 26 = .ok (.iconst (-1), 1) := by decide +kernel
theorem dX10_take_27 : decode cX10_take 27 = .ok (.ireturn, 1) := by decide +kernel
theorem dX10_take_28 : decode cX10_take 28 = .ok (.aload_n 0, 1) := by decide +kernel
theorem dX10_take_29 : decode cX10_take 29 = .ok (.getfield 26, 3) := by decide +kernel
theorem dX10_take_32 : decode cX10_take 32 = .ok (.iload_n 1, 1) := by decide +kernel
theorem dX10_take_33 : decode cX10_take 33 = .ok (.aaload, 1) := by decide +kernel
theorem dX10_take_34 : decode cX10_take 34 = .ok (.astore 5, 2) := by decide +kernel
theorem dX10_take_36 : decode cX10_take 36 = .ok (.aload 5, 2) := by decide +kernel
theorem dX10_take_38 : decode cX10_take 38 = .ok (.iload_n 2, 1) := by decide +kernel
theorem dX10_take_39 : decode cX10_take 39 = .ok (.invokestatic 108, 3) := by decide +kernel
theorem dX10_take_42 : decode cX10_take 42 = .ok (.istore 6, 2) := by decide +kernel
theorem dX10_take_44 : decode cX10_take 44 = .ok (.iload 6, 2) := by decide +kernel
theorem dX10_take_46 : decode cX10_take 46 = .ok (.ifCond .eq 9, 3) := by decide +kernel
theorem dX10_take_49 : decode cX10_take 49 = .ok (.iload 6, 2) := by decide +kernel
theorem dX10_take_51 : decode cX10_take 51 = .ok (.invokestatic 66, 3) := by decide +kernel
theorem dX10_take_54 : decode cX10_take 54 = .ok (.ireturn, 1) := by decide +kernel
theorem dX10_take_55 : decode cX10_take 55 = .ok (.aload 5, 2) := by decide +kernel
theorem dX10_take_57 : decode cX10_take 57 = .ok (.getfield 120, 3) := by decide +kernel
theorem dX10_take_60 : decode cX10_take 60 = .ok (.iload_n 2, 1) := by decide +kernel
theorem dX10_take_61 : decode cX10_take 61 = .ok (.aaload, 1) := by decide +kernel
theorem dX10_take_62 : decode cX10_take 62 = .ok (.astore 7, 2) := by decide +kernel
theorem dX10_take_64 : decode cX10_take 64 = .ok (.aload 7, 2) := by decide +kernel
theorem dX10_take_66 : decode cX10_take 66 = .ok (.iload_n 3, 1) := by decide +kernel
theorem dX10_take_67 : decode cX10_take 67 = .ok (.invokestatic 116, 3) := by decide +kernel
theorem dX10_take_70 : decode cX10_take 70 = .ok (.ifCond .ne 8, 3) := by decide +kernel
theorem dX10_take_73 : decode cX10_take 73 = .ok (.iconst 3, 1) := by decide +kernel
theorem dX10_take_74 : decode cX10_take 74 = .ok (.invokestatic 66, 3) := by decide +kernel
theorem dX10_take_77 : decode cX10_take 77 = .ok (.ireturn, 1) := by decide +kernel
theorem dX10_take_78 : decode cX10_take 78 = .ok (.aload_n 0, 1) := by decide +kernel
theorem dX10_take_79 : decode cX10_take 79 = .ok (.getfield 20, 3) := by decide +kernel
theorem dX10_take_82 : decode cX10_take 82 = .ok (.iload 4, 2) := by decide +kernel
theorem dX10_take_84 : decode cX10_take 84 = .ok (.aload 7, 2) := by decide +kernel
theorem dX10_take_86 : decode cX10_take 86 = .ok (.aastore, 1) := by decide +kernel
theorem dX10_take_87 : decode cX10_take 87 = .ok (.aload 7, 2) := by decide +kernel
theorem dX10_take_89 : decode cX10_take 89 = .ok (.ifnonnull 7, 3) := by decide +kernel
theorem dX10_take_92 : decode cX10_take 92 = .ok (.iconst 0, 1) := by decide +kernel
theorem dX10_take_93 : decode cX10_take 93 = .ok (.goto 4, 3) := by decide +kernel
theorem dX10_take_96 : decode cX10_take 96 = .ok (.iconst 1, 1) := by decide +kernel
theorem dX10_take_97 : decode cX10_take 97 = .ok (.ireturn, 1) := by decide +kernel
set_option maxRecDepth 20000 in
theorem ggX10_head_X10_isBelow : GoodIn wsX10_head wsX10_isBelow := goodIn_r _ [8] (by decide +kernel) (by decide +kernel)
set_option maxRecDepth 20000 in
theorem gX10_head_X10_isBelow : GoodIn wsX10_head (va_wsS RX10 40 yX10_isBelow wsX10_isBelow) := goodIn_app (goodIn_of _ (by decide +kernel)) ggX10_head_X10_isBelow
set_option maxRecDepth 20000 in
theorem ggX10_head_X10_isNumberUpTo : GoodIn wsX10_head wsX10_isNumberUpTo := goodIn_r _ [11, 12, 13, 14, 15, 16, 17, 18, 19, 20, 21, 22, 23, 24, 25, 26, 27, 28] (by decide +kernel) (by decide +kernel)
set_option maxRecDepth 20000 in
theorem gX10_head_X10_isNumberUpTo : GoodIn wsX10_head (va_wsS RX10 95 yX10_isNumberUpTo wsX10_isNumberUpTo) := goodIn_app (goodIn_of _ (by decide +kernel)) ggX10_head_X10_isNumberUpTo
set_option maxRecDepth 20000 in
theorem ggX10_head_X7_fromBits : GoodIn wsX10_head wsX7_fromBits := goodIn_r _ [21, 22, 23, 24, 25, 16, 17, 14, 18, 26, 27, 28] (by decide +kernel) (by decide +kernel)
set_option maxRecDepth 20000 in
theorem gX10_head_X7_fromBits : GoodIn wsX10_head (va_wsS RX10 70 yX7_fromBits wsX7_fromBits) := goodIn_app (goodIn_of _ (by decide +kernel)) ggX10_head_X7_fromBits
set_option maxRecDepth 20000 in
theorem ggX10_head_X6_init : GoodIn wsX10_head wsX6_init := goodIn_r _ [31, 32, 33, 34, 35, 36, 37, 38, 48, 49, 50, 51, 52, 53] (by decide +kernel) (by decide +kernel)
set_option maxRecDepth 20000 in
theorem gX10_head_X6_init : GoodIn wsX10_head (wsX6_init) := ggX10_head_X6_init
theorem dX10_head_0 : decode cX10_head 0 = .ok (.iload_n 1, 1) := by decide +kernel
theorem dX10_head_1 : decode cX10_head 1 = .ok (.iconst 4, 1) := by decide +kernel
theorem dX10_head_2 : decode cX10_head 2 = .ok (.invokestatic 40, 3) := by decide +kernel
theorem dX10_head_5 : decode cX10_head 5 = .ok (.ifCond .eq 22, 3) := by decide +kernel
theorem dX10_head_8 : decode cX10_head 8 = .ok (.iload_n 2, 1) := by decide +kernel
theorem dX10_head_9 : decode cX10_head 9 = .ok (.bipush 6, 2) := by decide +kernel
theorem dX10_head_11 : decode cX10_head 11 = .ok (.invokestatic 40, 3) := by decide +kernel
theorem dX10_head_14 : decode cX10_head 14 = .ok (.ifCond .eq 13, 3) := by decide +kernel
theorem dX10_head_17 : decode cX10_head 17 = .ok (.lload 5, 2) := by decide +kernel
theorem dX10_head_19 : decode cX10_head 19 = .ok (.bipush 64, 2) := by decide +kernel
theorem dX10_head_21 : decode cX10_head 21 = .ok (.invokestatic 95, 3) := by decide +kernel
theorem dX10_head_24 : decode cX10_head 24 = .ok (.ifCond .ne 5, 3) := by decide +kernel
theorem dX10_head_27 : decode cX10_head 27 = .ok (.iconst (-1), 1) := by decide +kernel
theorem dX10_head_28 : decode cX10_head 28 = .ok (.ireturn, 1) := by decide +kernel
theorem dX10_head_29 : decode cX10_head 29 = .ok (.iload_n 3, 1) := by decide +kernel
theorem dX10_head_30 : decode cX10_head 30 = .ok (.iconst (-1), 1) := by decide +kernel
theorem dX10_head_31 : decode cX10_head 31 = .ok (.if_icmp .eq 12, 3) := by decide +kernel
theorem dX10_head_34 : decode cX10_head 34 = .ok (.iload_n 3, 1) := by decide +kernel
theorem dX10_head_35 : decode cX10_head 35 = .ok (.bipush 6, 2) := by decide +kernel
theorem dX10_head_37 : decode cX10_head 37 = .ok (.invokestatic 40, 3) := by decide +kernel
theorem dX10_head_40 : decode cX10_head 40 = .ok (.ifCond .eq 18, 3) := by decide +kernel
theorem dX10_head_43 : decode cX10_head 43 = .ok (.iload 4, 2) := by decide +kernel
theorem dX10_head_45 : decode cX10_head 45 = .ok (.iconst (-1), 1) := by decide +kernel
theorem dX10_head_46 : decode cX10_head 46 = .ok (.if_icmp .eq 14, 3) := by decide +kernel
theorem dX10_head_49 : decode cX10_head 49 = .ok (.iload 4, 2) := by decide +kernel
theorem dX10_head_51 : decode cX10_head 51 = .ok (.iconst 3, 1) := by decide +kernel
theorem dX10_head_52 : decode cX10_head 52 = .ok (.invokestatic 40, 3) := by decide +kernel
theorem dX10_head_55 : decode cX10_head 55 = .ok (.ifCond .ne 5, 3) := by decide +kernel
theorem dX10_head_58 : decode cX10_head 58 = .ok (.iconst (-1), 1) := by decide +kernel
theorem dX10_head_59 : decode cX10_head 59 = .ok (.ireturn, 1) := by decide +kernel
theorem dX10_head_60 : decode cX10_head 60 = .ok (.aload_n 0, 1) := by decide +kernel
theorem dX10_head_61 : decode cX10_head 61 = .ok (.getfield 32, 3) := by decide +kernel
theorem dX10_head_64 : decode cX10_head 64 = .ok (.iload_n 1, 1) := by decide +kernel
theorem dX10_head_65 : decode cX10_head 65 = .ok (.new 30, 3) := by decide +kernel
theorem dX10_head_68 : decode cX10_head 68 = .ok (.dup, 1) := by decide +kernel
theorem dX10_head_69 : decode cX10_head 69 = .ok (.iload_n 2, 1) := by decide +kernel
theorem dX10_head_70 : decode cX10_head 70 = .ok (.iload_n 3, 1) := by decide +kernel
theorem dX10_head_71 : decode cX10_head 71 = .ok (.iload 4, 2) := by decide +kernel
theorem dX10_head_73 : decode cX10_head 73 = .ok (.iconst 1, 1) := by decide +kernel
theorem dX10_head_74 : decode cX10_head 74 = .ok (.lload 5, 2) := by decide +kernel
theorem dX10_head_76 : decode cX10_head 76 = .ok (.invokestatic 70, 3) := by decide +kernel
theorem dX10_head_79 : decode cX10_head 79 = .ok (.invokespecial 123, 3) := by decide +kernel
theorem dX10_head_82 : decode cX10_head 82 = .ok (.aastore, 1) := by decide +kernel
theorem dX10_head_83 : decode cX10_head 83 = .ok (.iconst 1, 1) := by decide +kernel
theorem dX10_head_84 : decode cX10_head 84 = .ok (.ireturn, 1) := by decide +kernel
set_option maxRecDepth 20000 in
theorem ggX10_play_X10_isBelow : GoodIn wsX10_play wsX10_isBelow := goodIn_r _ [6] (by decide +kernel) (by decide +kernel)
set_option maxRecDepth 20000 in
theorem gX10_play_X10_isBelow : GoodIn wsX10_play (va_wsS RX10 40 yX10_isBelow wsX10_isBelow) := goodIn_app (goodIn_of _ (by decide +kernel)) ggX10_play_X10_isBelow
set_option maxRecDepth 20000 in
theorem ggX10_play_X10_step : GoodIn wsX10_play wsX10_step := goodIn_r _ [10, 11, 12, 13, 14, 15, 16, 17, 5, 18, 19, 20, 21, 22, 23, 24, 25, 26, 27, 28, 29, 30, 31, 32, 33, 3, 4, 6, 34, 35, 36, 37, 38, 39, 40, 41, 42, 43, 44, 45, 46, 47, 48, 49, 50, 51, 52, 53, 54, 55, 56, 57, 58, 59, 60, 61, 62, 63, 64, 65, 66, 67, 68, 69, 70, 71, 72, 73, 74, 75, 76, 77, 78, 79, 80, 81, 82, 83, 84, 85, 86, 87, 88, 89, 90, 91, 92, 93, 94, 95, 96, 97, 98, 99, 100, 101, 102, 103, 104, 105, 106, 107, 108, 109, 110, 111, 112, 113, 114, 115, 116, 117, 118, 119, 120, 121, 122, 123, 124, 125, 126, 127, 128, 129, 130, 131, 132, 133, 134] (by decide +kernel) (by decide +kernel)
set_option maxRecDepth 20000 in
theorem gX10_play_X10_step : GoodIn wsX10_play (wsV RX10 129 RX10 yX10_step wsX10_step) := goodIn_app (goodIn_of _ (by decide +kernel)) ggX10_play_X10_step
theorem dX10_play_0 : decode cX10_play 0 = .ok (.iload_n 1, 1) := by decide +kernel
theorem dX10_play_1 : decode cX10_play 1 = .ok (.iconst 4, 1) := by decide +kernel
theorem dX10_play_2 : decode cX10_play 2 = .ok (.invokestatic 40, 3) := by decide +kernel
theorem dX10_play_5 : decode cX10_play 5 = .ok (.ifCond .eq 13, 3) := by decide +kernel
theorem dX10_play_8 : decode cX10_play 8 = .ok (.iload_n 2, 1) := by decide +kernel
theorem dX10_play_9 : decode cX10_play 9 = .ok (.ifCond .lt 9, 3) := by decide +kernel
theorem dX10_play_12 : decode cX10_play 12 = .ok (.iload_n 2, 1) := by decide +kernel
theorem dX10_play_13 : decode cX10_play 13 = .ok (.bipush 64, 2) := by decide +kernel
theorem dX10_play_15 : decode cX10_play 15 = .ok (.if_icmp .le 5, 3) := by decide +kernel
theorem dX10_play_18 : decode cX10_play 18 = .ok (.iconst (-1), 1) := by decide +kernel
theorem dX10_play_19 : decode cX10_play 19 = .ok (.ireturn, 1) := by decide +kernel
theorem dX10_play_20 : decode cX10_play 20 = .ok (.aload_n 0, 1) := by decide +kernel
theorem dX10_play_21 : decode cX10_play 21 = .ok (.getfield 32, 3) := by decide +kernel
theorem dX10_play_24 : decode cX10_play 24 = .ok (.iload_n 1, 1) := by decide +kernel
theorem dX10_play_25 : decode cX10_play 25 = .ok (.aaload, 1) := by decide +kernel
theorem dX10_play_26 : decode cX10_play 26 = .ok (.astore_n 3, 1) := by decide +kernel
theorem dX10_play_27 : decode cX10_play 27 = .ok (.aload_n 3, 1) := by decide +kernel
theorem dX10_play_28 : decode cX10_play 28 = .ok (.ifnonnull 5, 3) := by decide +kernel
theorem dX10_play_31 : decode cX10_play 31 = .ok (.iconst (-1), 1) := by decide +kernel
theorem dX10_play_32 : decode cX10_play 32 = .ok (.ireturn, 1) := by decide +kernel
theorem dX10_play_33 : decode cX10_play 33 = .ok (.aload_n 0, 1) := by decide +kernel
theorem dX10_play_34 : decode cX10_play 34 = .ok (.iconst 0, 1) := by decide +kernel
theorem dX10_play_35 : decode cX10_play 35 = .ok (.putfield 126, 3) := by decide +kernel
theorem dX10_play_38 : decode cX10_play 38 = .ok (.iconst 0, 1) := by decide +kernel
theorem dX10_play_39 : decode cX10_play 39 = .ok (.istore 4, 2) := by decide +kernel
theorem dX10_play_41 : decode cX10_play 41 = .ok (.iload 4, 2) := by decide +kernel
theorem dX10_play_43 : decode cX10_play 43 = .ok (.iload_n 2, 1) := by decide +kernel
theorem dX10_play_44 : decode cX10_play 44 = .ok (.if_icmp .ge 28, 3) := by decide +kernel
theorem dX10_play_47 : decode cX10_play 47 = .ok (.aload_n 0, 1) := by decide +kernel
theorem dX10_play_48 : decode cX10_play 48 = .ok (.aload_n 0, 1) := by decide +kernel
theorem dX10_play_49 : decode cX10_play 49 = .ok (.aload_n 3, 1) := by decide +kernel
theorem dX10_play_50 : decode cX10_play 50 = .ok (.invokevirtual 129, 3) := by decide +kernel
theorem dX10_play_53 : decode cX10_play 53 = .ok (.putfield 126, 3) := by decide +kernel
theorem dX10_play_56 : decode cX10_play 56 = .ok (.aload_n 0, 1) := by decide +kernel
theorem dX10_play_57 : decode cX10_play 57 = .ok (.getfield 126, 3) := by decide +kernel
theorem dX10_play_60 : decode cX10_play 60 = .ok (.ifCond .eq 6, 3) := by decide +kernel
theorem dX10_play_63 : decode cX10_play 63 = .ok (.iload 4, 2) := by decide +kernel
theorem dX10_play_65 : decode cX10_play 65 = .ok (.ireturn, 1) := by decide +kernel
theorem dX10_play_66 : decode cX10_play 66 = .ok (.iinc 4 1, 3) := by decide +kernel
theorem dX10_play_69 : decode cX10_play 69 = .ok (.goto (-28), 3) := by decide +kernel
theorem dX10_play_72 : decode cX10_play 72 = .ok (.iload_n 2, 1) := by decide +kernel
theorem dX10_play_73 : decode cX10_play 73 = .ok (.ireturn, 1) := by decide +kernel
set_option maxRecDepth 20000 in
theorem ggX10_failed_X10_toldFailure : GoodIn wsX10_failed wsX10_toldFailure := goodIn_r _ [5] (by decide +kernel) (by decide +kernel)
set_option maxRecDepth 20000 in
theorem gX10_failed_X10_toldFailure : GoodIn wsX10_failed (va_wsS RX10 66 yX10_toldFailure wsX10_toldFailure) := goodIn_app (goodIn_of _ (by decide +kernel)) ggX10_failed_X10_toldFailure
theorem dX10_failed_0 : decode cX10_failed 0 = .ok (.aload_n 0, 1) := by decide +kernel
theorem dX10_failed_1 : decode cX10_failed 1 = .ok (.getfield 126, 3) := by decide +kernel
theorem dX10_failed_4 : decode cX10_failed 4 = .ok (.ifCond .ne 7, 3) := by decide +kernel
theorem dX10_failed_7 : decode cX10_failed 7 = .ok (.iconst 0, 1) := by decide +kernel
theorem dX10_failed_8 : decode cX10_failed 8 = .ok (.goto 10, 3) := by decide +kernel
theorem dX10_failed_11 : decode cX10_failed 11 = .ok (.aload_n 0, 1) := by decide +kernel
theorem dX10_failed_12 : decode cX10_failed 12 = .ok (.getfield 126, 3) := by decide +kernel
theorem dX10_failed_15 : decode cX10_failed 15 = .ok (.invokestatic 66, 3) := by decide +kernel
theorem dX10_failed_18 : decode cX10_failed 18 = .ok (.ireturn, 1) := by decide +kernel
set_option maxRecDepth 20000 in
theorem ggX10_mix_X10_isBelow : GoodIn wsX10_mix wsX10_isBelow := goodIn_r _ [6] (by decide +kernel) (by decide +kernel)
set_option maxRecDepth 20000 in
theorem gX10_mix_X10_isBelow : GoodIn wsX10_mix (va_wsS RX10 40 yX10_isBelow wsX10_isBelow) := goodIn_app (goodIn_of _ (by decide +kernel)) ggX10_mix_X10_isBelow
set_option maxRecDepth 20000 in
theorem ggX10_mix_X7_toBits : GoodIn wsX10_mix wsX7_toBits := goodIn_r _ [10, 11, 12, 13, 14, 9, 15, 16, 17, 18] (by decide +kernel) (by decide +kernel)
set_option maxRecDepth 20000 in
theorem gX10_mix_X7_toBits : GoodIn wsX10_mix (va_wsS RX10 82 yX7_toBits wsX7_toBits) := goodIn_app (goodIn_of _ (by decide +kernel)) ggX10_mix_X7_toBits
set_option maxRecDepth 20000 in
theorem ggX10_mix_X10_tell : GoodIn wsX10_mix wsX10_tell := goodIn_r _ [22, 23, 24, 25, 26, 27, 28, 29, 30, 31, 32] (by decide +kernel) (by decide +kernel)
set_option maxRecDepth 20000 in
theorem gX10_mix_X10_tell : GoodIn wsX10_mix (wsV RX10 86 RX10 yX10_tell wsX10_tell) := goodIn_app (goodIn_of _ (by decide +kernel)) ggX10_mix_X10_tell
theorem dX10_mix_0 : decode cX10_mix 0 = .ok (.iload_n 1, 1) := by decide +kernel
theorem dX10_mix_1 : decode cX10_mix 1 = .ok (.bipush 8, 2) := by decide +kernel
theorem dX10_mix_3 : decode cX10_mix 3 = .ok (.invokestatic 40, 3) := by decide +kernel
theorem dX10_mix_6 : decode cX10_mix 6 = .ok (.ifCond .ne 5, 3) := by decide +kernel
theorem dX10_mix_9 : decode cX10_mix 9 = .ok (.iconst (-1), 1) := by decide +kernel
theorem dX10_mix_10 : decode cX10_mix 10 = .ok (.ireturn, 1) := by decide +kernel
theorem dX10_mix_11 : decode cX10_mix 11 = .ok (.aload_n 0, 1) := by decide +kernel
theorem dX10_mix_12 : decode cX10_mix 12 = .ok (.getfield 36, 3) := by decide +kernel
theorem dX10_mix_15 : decode cX10_mix 15 = .ok (.iload_n 1, 1) := by decide +kernel
theorem dX10_mix_16 : decode cX10_mix 16 = .ok (.faload, 1) := by decide +kernel
theorem dX10_mix_17 : decode cX10_mix 17 = .ok (.fstore_n 3, 1) := by decide +kernel
theorem dX10_mix_18 : decode cX10_mix 18 = .ok (.fload_n 3, 1) := by decide +kernel
theorem dX10_mix_19 : decode cX10_mix 19 = .ok (.f2d, 1) := by decide +kernel
theorem dX10_mix_20 : decode cX10_mix 20 = .ok (.ldc2_w 133, 3) := by decide +kernel
theorem dX10_mix_23 : decode cX10_mix 23 = .ok (.dmul, 1) := by decide +kernel
theorem dX10_mix_24 : decode cX10_mix 24 = .ok (.d2i, 1) := by decide +kernel
theorem dX10_mix_25 : decode cX10_mix 25 = .ok (.istore 4, 2) := by decide +kernel
theorem dX10_mix_27 : decode cX10_mix 27 = .ok (.iload_n 2, 1) := by decide +kernel
theorem dX10_mix_28 : decode cX10_mix 28 = .ok (.tableswitch 67 0 3 #[32, 43, 51, 60], 32) := by decide +kernel
theorem dX10_mix_60 : decode cX10_mix 60 = .ok (.aload_n 0, 1) := by decide +kernel
theorem dX10_mix_61 : decode cX10_mix 61 = .ok (.iconst 0, 1) := by decide +kernel
theorem dX10_mix_62 : decode cX10_mix 62 = .ok (.fload_n 3, 1) := by decide +kernel
theorem dX10_mix_63 : decode cX10_mix 63 = .ok (.f2d, 1) := by decide +kernel
theorem dX10_mix_64 : decode cX10_mix 64 = .ok (.invokestatic 82, 3) := by decide +kernel
theorem dX10_mix_67 : decode cX10_mix 67 = .ok (.invokevirtual 86, 3) := by decide +kernel
theorem dX10_mix_70 : decode cX10_mix 70 = .ok (.ireturn, 1) := by decide +kernel
theorem dX10_mix_71 : decode cX10_mix 71 = .ok (.aload_n 0, 1) := by decide +kernel
theorem dX10_mix_72 : decode cX10_mix 72 = .ok (.iload 4, 2) := by decide +kernel
theorem dX10_mix_74 : decode cX10_mix 74 = .ok (.i2l, 1) := by decide +kernel
theorem dX10_mix_75 : decode cX10_mix 75 = .ok (.invokevirtual 86, 3) := by decide +kernel
theorem dX10_mix_78 : decode cX10_mix 78 = .ok (.ireturn, 1) := by decide +kernel
theorem dX10_mix_79 : decode cX10_mix 79 = .ok (.aload_n 0, 1) := by decide +kernel
theorem dX10_mix_80 : decode cX10_mix 80 = .ok (.iload 4, 2) := by decide +kernel
theorem dX10_mix_82 : decode cX10_mix 82 = .ok (.i2s, 1) := by decide +kernel
theorem dX10_mix_83 : decode cX10_mix 83 = .ok (.i2l, 1) := by decide +kernel
theorem dX10_mix_84 : decode cX10_mix 84 = .ok (.invokevirtual 86, 3) := by decide +kernel
theorem dX10_mix_87 : decode cX10_mix 87 = .ok (.ireturn, 1) := by decide +kernel
theorem dX10_mix_88 : decode cX10_mix 88 = .ok (.aload_n 0, 1) := by decide +kernel
theorem dX10_mix_89 : decode cX10_mix 89 = .ok (.fload_n 3, 1) := by decide +kernel
theorem dX10_mix_90 : decode cX10_mix 90 = .ok (.f2l, 1) := by decide +kernel
theorem dX10_mix_91 : decode cX10_mix 91 = .ok (.invokevirtual 86, 3) := by decide +kernel
theorem dX10_mix_94 : decode cX10_mix 94 = .ok (.ireturn, 1) := by decide +kernel
theorem dX10_mix_95 : decode cX10_mix 95 = .ok (.iconst (-1), 1) := by decide +kernel
theorem dX10_mix_96 : decode cX10_mix 96 = .ok (.ireturn, 1) := by decide +kernel
theorem dX10_hush_0 : decode cX10_hush 0 = .ok (.iconst 0, 1) := by decide +kernel
theorem dX10_hush_1 : decode cX10_hush 1 = .ok (.istore_n 1, 1) := by decide +kernel
theorem dX10_hush_2 : decode cX10_hush 2 = .ok (.iload_n 1, 1) := by decide +kernel
theorem dX10_hush_3 : decode cX10_hush 3 = .ok (.aload_n 0, 1) := by decide +kernel
theorem dX10_hush_4 : decode cX10_hush 4 = .ok (.getfield 36, 3) := by decide +kernel
theorem dX10_hush_7 : decode cX10_hush 7 = .ok (.arraylength, 1) := by decide +kernel
theorem dX10_hush_8 : decode cX10_hush 8 = .ok (.if_icmp .ge 16, 3) := by decide +kernel
theorem dX10_hush_11 : decode cX10_hush 11 = .ok (.aload_n 0, 1) := by decide +kernel
theorem dX10_hush_12 : decode cX10_hush 12 = .ok (.getfield 36, 3) := by decide +kernel
theorem dX10_hush_15 : decode cX10_hush 15 = .ok (.iload_n 1, 1) := by decide +kernel
theorem dX10_hush_16 : decode cX10_hush 16 = .ok (.fconst 0, 1) := by decide +kernel
theorem dX10_hush_17 : decode cX10_hush 17 = .ok (.fastore, 1) := by decide +kernel
theorem dX10_hush_18 : decode cX10_hush 18 = .ok (.iinc 1 1, 3) := by decide +kernel
theorem dX10_hush_21 : decode cX10_hush 21 = .ok (.goto (-19), 3) := by decide +kernel
theorem dX10_hush_24 : decode cX10_hush 24 = .ok (.iconst 1, 1) := by decide +kernel
theorem dX10_hush_25 : decode cX10_hush 25 = .ok (.ireturn, 1) := by decide +kernel
set_option maxRecDepth 20000 in
theorem ggX10_at_X10_isBelow : GoodIn wsX10_at wsX10_isBelow := goodIn_r _ [5] (by decide +kernel) (by decide +kernel)
set_option maxRecDepth 20000 in
theorem gX10_at_X10_isBelow : GoodIn wsX10_at (va_wsS RX10 40 yX10_isBelow wsX10_isBelow) := goodIn_app (goodIn_of _ (by decide +kernel)) ggX10_at_X10_isBelow
set_option maxRecDepth 20000 in
theorem ggX10_at_X7_toBits : GoodIn wsX10_at wsX7_toBits := goodIn_r _ [9, 10, 11, 12, 13, 8, 14, 15, 16, 17] (by decide +kernel) (by decide +kernel)
set_option maxRecDepth 20000 in
theorem gX10_at_X7_toBits : GoodIn wsX10_at (va_wsS RX10 82 yX7_toBits wsX7_toBits) := goodIn_app (goodIn_of _ (by decide +kernel)) ggX10_at_X7_toBits
set_option maxRecDepth 20000 in
theorem ggX10_at_X10_tell : GoodIn wsX10_at wsX10_tell := goodIn_r _ [21, 22, 23, 24, 25, 26, 27, 28, 29, 30, 31] (by decide +kernel) (by decide +kernel)
set_option maxRecDepth 20000 in
theorem gX10_at_X10_tell : GoodIn wsX10_at (wsV RX10 86 RX10 yX10_tell wsX10_tell) := goodIn_app (goodIn_of _ (by decide +kernel)) ggX10_at_X10_tell
theorem dX10_at_0 : decode cX10_at 0 = .ok (.iload_n 1, 1) := by decide +kernel
theorem dX10_at_1 : decode cX10_at 1 = .ok (.iconst 4, 1) := by decide +kernel
theorem dX10_at_2 : decode cX10_at 2 = .ok (.invokestatic 40, 3) := by decide +kernel
theorem dX10_at_5 : decode cX10_at 5 = .ok (.ifCond .ne 5, 3) := by decide +kernel
theorem dX10_at_8 : decode cX10_at 8 = .ok (.iconst (-1), 1) := by decide +kernel
theorem dX10_at_9 : decode cX10_at 9 = .ok (.ireturn, 1) := by decide +kernel
theorem dX10_at_10 : decode cX10_at 10 = .ok (.aload_n 0, 1) := by decide +kernel
theorem dX10_at_11 : decode cX10_at 11 = .ok (.getfield 32, 3) := by decide +kernel
theorem dX10_at_14 : decode cX10_at 14 = .ok (.iload_n 1, 1) := by decide +kernel
theorem dX10_at_15 : decode cX10_at 15 = .ok (.aaload, 1) := by decide +kernel
theorem dX10_at_16 : decode cX10_at 16 = .ok (.astore_n 3, 1) := by decide +kernel
theorem dX10_at_17 : decode cX10_at 17 = .ok (.aload_n 3, 1) := by decide +kernel
theorem dX10_at_18 : decode cX10_at 18 = .ok (.ifnonnull 5, 3) := by decide +kernel
theorem dX10_at_21 : decode cX10_at 21 = .ok (.iconst (-1), 1) := by decide +kernel
theorem dX10_at_22 : decode cX10_at 22 = .ok (.ireturn, 1) := by decide +kernel
theorem dX10_at_23 : decode cX10_at 23 = .ok (.iload_n 2, 1) := by decide +kernel
theorem dX10_at_24 : decode cX10_at 24 = .ok (.lookupswitch 50 #[(0, 28), (1, 41)], 28) := by decide +kernel
theorem dX10_at_52 : decode cX10_at 52 = .ok (.aload_n 0, 1) := by decide +kernel
theorem dX10_at_53 : decode cX10_at 53 = .ok (.iconst 1, 1) := by decide +kernel
theorem dX10_at_54 : decode cX10_at 54 = .ok (.aload_n 3, 1) := by decide +kernel
theorem dX10_at_55 : decode cX10_at 55 = .ok (.getfield 135, 3) := by decide +kernel
theorem dX10_at_58 : decode cX10_at 58 = .ok (.invokestatic 82, 3) := by decide +kernel
theorem dX10_at_61 : decode cX10_at 61 = .ok (.invokevirtual 86, 3) := by decide +kernel
theorem dX10_at_64 : decode cX10_at 64 = .ok (.ireturn, 1) := by decide +kernel
theorem dX10_at_65 : decode cX10_at 65 = .ok (.aload_n 0, 1) := by decide +kernel
theorem dX10_at_66 : decode cX10_at 66 = .ok (.aload_n 3, 1) := by decide +kernel
theorem dX10_at_67 : decode cX10_at 67 = .ok (.getfield 139, 3) := by decide +kernel
theorem dX10_at_70 : decode cX10_at 70 = .ok (.invokevirtual 86, 3) := by decide +kernel
theorem dX10_at_73 : decode cX10_at 73 = .ok (.ireturn, 1) := by decide +kernel
theorem dX10_at_74 : decode cX10_at 74 = .ok (.iconst (-1), 1) := by decide +kernel
theorem dX10_at_75 : decode cX10_at 75 = .ok (.ireturn, 1) := by decide +kernel
set_option maxRecDepth 20000 in
theorem ggX10_clock_X10_isBelow : GoodIn wsX10_clock wsX10_isBelow := goodIn_r _ [5] (by decide +kernel) (by decide +kernel)
set_option maxRecDepth 20000 in
theorem gX10_clock_X10_isBelow : GoodIn wsX10_clock (va_wsS RX10 40 yX10_isBelow wsX10_isBelow) := goodIn_app (goodIn_of _ (by decide +kernel)) ggX10_clock_X10_isBelow
set_option maxRecDepth 20000 in
theorem ggX10_clock_X10_tell : GoodIn wsX10_clock wsX10_tell := goodIn_r _ [9, 10, 23, 24, 25, 26, 27, 28, 29, 30, 31] (by decide +kernel) (by decide +kernel)
set_option maxRecDepth 20000 in
theorem gX10_clock_X10_tell : GoodIn wsX10_clock (wsV RX10 86 RX10 yX10_tell wsX10_tell) := goodIn_app (goodIn_of _ (by decide +kernel)) ggX10_clock_X10_tell
set_option maxRecDepth 20000 in
theorem ggX10_clock_X7_toBits : GoodIn wsX10_clock wsX7_toBits := goodIn_r _ [14, 15, 16, 17, 18, 13, 19, 20, 21, 22] (by decide +kernel) (by decide +kernel)
set_option maxRecDepth 20000 in
theorem gX10_clock_X7_toBits : GoodIn wsX10_clock (va_wsS RX10 82 yX7_toBits wsX7_toBits) := goodIn_app (goodIn_of _ (by decide +kernel)) ggX10_clock_X7_toBits
theorem dX10_clock_0 : decode cX10_clock 0 = .ok (.iload_n 3, 1) := by decide +kernel
theorem dX10_clock_1 : decode cX10_clock 1 = .ok (.bipush 6, 2) := by decide +kernel
theorem dX10_clock_3 : decode cX10_clock 3 = .ok (.invokestatic 40, 3) := by decide +kernel
theorem dX10_clock_6 : decode cX10_clock 6 = .ok (.ifCond .ne 5, 3) := by decide +kernel
theorem dX10_clock_9 : decode cX10_clock 9 = .ok (.iconst (-1), 1) := by decide +kernel
theorem dX10_clock_10 : decode cX10_clock 10 = .ok (.ireturn, 1) := by decide +kernel
theorem dX10_clock_11 : decode cX10_clock 11 = .ok (.aload_n 0, 1) := by decide +kernel
theorem dX10_clock_12 : decode cX10_clock 12 = .ok (.aload_n 0, 1) := by decide +kernel
theorem dX10_clock_13 : decode cX10_clock 13 = .ok (.getfield 143, 3) := by decide +kernel
theorem dX10_clock_16 : decode cX10_clock 16 = .ok (.lload_n 1, 1) := by decide +kernel
theorem dX10_clock_17 : decode cX10_clock 17 = .ok (.ladd, 1) := by decide +kernel
theorem dX10_clock_18 : decode cX10_clock 18 = .ok (.putfield 143, 3) := by decide +kernel
theorem dX10_clock_21 : decode cX10_clock 21 = .ok (.iload_n 3, 1) := by decide +kernel
theorem dX10_clock_22 : decode cX10_clock 22 = .ok (.tableswitch 94 0 4 #[34, 43, 58, 72, 83], 34) := by decide +kernel
theorem dX10_clock_56 : decode cX10_clock 56 = .ok (.aload_n 0, 1) := by decide +kernel
theorem dX10_clock_57 : decode cX10_clock 57 = .ok (.aload_n 0, 1) := by decide +kernel
theorem dX10_clock_58 : decode cX10_clock 58 = .ok (.getfield 143, 3) := by decide +kernel
theorem dX10_clock_61 : decode cX10_clock 61 = .ok (.invokevirtual 86, 3) := by decide +kernel
theorem dX10_clock_64 : decode cX10_clock 64 = .ok (.ireturn, 1) := by decide +kernel
theorem dX10_clock_65 : decode cX10_clock 65 = .ok (.aload_n 0, 1) := by decide +kernel
theorem dX10_clock_66 : decode cX10_clock 66 = .ok (.iconst 0, 1) := by decide +kernel
theorem dX10_clock_67 : decode cX10_clock 67 = .ok (.aload_n 0, 1) := by decide +kernel
theorem dX10_clock_68 : decode cX10_clock 68 = .ok (.getfield 143, 3) := by decide +kernel
theorem dX10_clock_71 : decode cX10_clock 71 = .ok (.l2f, 1) := by decide +kernel
theorem dX10_clock_72 : decode cX10_clock 72 = .ok (.f2d, 1) := by decide +kernel
theorem dX10_clock_73 : decode cX10_clock 73 = .ok (.invokestatic 82, 3) := by decide +kernel
theorem dX10_clock_76 : decode cX10_clock 76 = .ok (.invokevirtual 86, 3) := by decide +kernel
theorem dX10_clock_79 : decode cX10_clock 79 = .ok (.ireturn, 1) := by decide +kernel
theorem dX10_clock_80 : decode cX10_clock 80 = .ok (.aload_n 0, 1) := by decide +kernel
theorem dX10_clock_81 : decode cX10_clock 81 = .ok (.iconst 1, 1) := by decide +kernel
theorem dX10_clock_82 : decode cX10_clock 82 = .ok (.aload_n 0, 1) := by decide +kernel
theorem dX10_clock_83 : decode cX10_clock 83 = .ok (.getfield 143, 3) := by decide +kernel
theorem dX10_clock_86 : decode cX10_clock 86 = .ok (.l2d, 1) := by decide +kernel
theorem dX10_clock_87 : decode cX10_clock 87 = .ok (.invokestatic 82, 3) := by decide +kernel
theorem dX10_clock_90 : decode cX10_clock 90 = .ok (.invokevirtual 86, 3) := by decide +kernel
theorem dX10_clock_93 : decode cX10_clock 93 = .ok (.ireturn, 1) := by decide +kernel
theorem dX10_clock_94 : decode cX10_clock 94 = .ok (.aload_n 0, 1) := by decide +kernel
theorem dX10_clock_95 : decode cX10_clock 95 = .ok (.aload_n 0, 1) := by decide +kernel
theorem dX10_clock_96 : decode cX10_clock 96 = .ok (.getfield 143, 3) := by decide +kernel
theorem dX10_clock_99 : decode cX10_clock 99 = .ok (.l2f, 1) := by decide +kernel
theorem dX10_clock_100 : decode cX10_clock 100 = .ok (.f2l, 1) := by decide +kernel
theorem dX10_clock_101 : decode cX10_clock 101 = .ok (.invokevirtual 86, 3) := by decide +kernel
theorem dX10_clock_104 : decode cX10_clock 104 = .ok (.ireturn, 1) := by decide +kernel
theorem dX10_clock_105 : decode cX10_clock 105 = .ok (.aload_n 0, 1) := by decide +kernel
theorem dX10_clock_106 : decode cX10_clock 106 = .ok (.aload_n 0, 1) := by decide +kernel
theorem dX10_clock_107 : decode cX10_clock 107 = .ok (.getfield 143, 3) := by decide +kernel
theorem dX10_clock_110 : decode cX10_clock 110 = .ok (.l2d, 1) := by decide +kernel
theorem dX10_clock_111 : decode cX10_clock 111 = .ok (.d2l, 1) := by decide +kernel
theorem dX10_clock_112 : decode cX10_clock 112 = .ok (.invokevirtual 86, 3) := by decide +kernel
theorem dX10_clock_115 : decode cX10_clock 115 = .ok (.ireturn, 1) := by decide +kernel
theorem dX10_clock_116 : decode cX10_clock 116 = .ok (.aload_n 0, 1) := by decide +kernel
theorem dX10_clock_117 : decode cX10_clock 117 = .ok (.aload_n 0, 1) := by decide +kernel
theorem dX10_clock_118 : decode cX10_clock 118 = .ok (.getfield 143, 3) := by decide +kernel
theorem dX10_clock_121 : decode cX10_clock 121 = .ok (.l2f, 1) := by decide +kernel
theorem dX10_clock_122 : decode cX10_clock 122 = .ok (.f2i, 1) := by decide +kernel
theorem dX10_clock_123 : decode cX10_clock 123 = .ok (.i2l, 1) := by decide +kernel
theorem dX10_clock_124 : decode cX10_clock 124 = .ok (.invokevirtual 86, 3) := by decide +kernel
theorem dX10_clock_127 : decode cX10_clock 127 = .ok (.ireturn, 1) := by decide +kernel
theorem dX10_told_0 : decode cX10_told 0 = .ok (.aload_n 0, 1) := by decide +kernel
theorem dX10_told_1 : decode cX10_told 1 = .ok (.getfield 146, 3) := by decide +kernel
theorem dX10_told_4 : decode cX10_told 4 = .ok (.lreturn, 1) := by decide +kernel
theorem dX10_tell_0 : decode cX10_tell 0 = .ok (.aload_n 0, 1) := by decide +kernel
theorem dX10_tell_1 : decode cX10_tell 1 = .ok (.lload_n 1, 1) := by decide +kernel
theorem dX10_tell_2 : decode cX10_tell 2 = .ok (.putfield 146, 3) := by decide +kernel
theorem dX10_tell_5 : decode cX10_tell 5 = .ok (.iconst 1, 1) := by decide +kernel
theorem dX10_tell_6 : decode cX10_tell 6 = .ok (.ireturn, 1) := by decide +kernel
theorem dX10_toldFailure_0 : decode cX10_toldFailure 0 = .ok (.bipush (-10), 2) := by decide +kernel
theorem dX10_toldFailure_2 : decode cX10_toldFailure 2 = .ok (.iload_n 0, 1) := by decide +kernel
theorem dX10_toldFailure_3 : decode cX10_toldFailure 3 = .ok (.isub, 1) := by decide +kernel
theorem dX10_toldFailure_4 : decode cX10_toldFailure 4 = .ok (.ireturn, 1) := by decide +kernel
theorem dX10_isBelow_0 : decode cX10_isBelow 0 = .ok (.iload_n 0, 1) := by decide +kernel
theorem dX10_isBelow_1 : decode cX10_isBelow 1 = .ok (.ifCond .lt 12, 3) := by decide +kernel
theorem dX10_isBelow_4 : decode cX10_isBelow 4 = .ok (.iload_n 0, 1) := by decide +kernel
theorem dX10_isBelow_5 : decode cX10_isBelow 5 = .ok (.iload_n 1, 1) := by decide +kernel
theorem dX10_isBelow_6 : decode cX10_isBelow 6 = .ok (.if_icmp .ge 7, 3) := by decide +kernel
theorem dX10_isBelow_9 : decode cX10_isBelow 9 = .ok (.iconst 1, 1) := by decide +kernel
theorem dX10_isBelow_10 : decode cX10_isBelow 10 = .ok (.goto 4, 3) := by decide +kernel
theorem dX10_isBelow_13 : decode cX10_isBelow 13 = .ok (.iconst 0, 1) := by decide +kernel
theorem dX10_isBelow_14 : decode cX10_isBelow 14 = .ok (.ireturn, 1) := by decide +kernel
set_option maxRecDepth 20000 in
theorem ggX10_isNumberUpTo_X7_isNumber : GoodIn wsX10_isNumberUpTo wsX7_isNumber := goodIn_r _ [4, 5, 6, 3, 7] (by decide +kernel) (by decide +kernel)
set_option maxRecDepth 20000 in
theorem gX10_isNumberUpTo_X7_isNumber : GoodIn wsX10_isNumberUpTo (va_wsS RX10 56 yX7_isNumber wsX7_isNumber) := goodIn_app (goodIn_of _ (by decide +kernel)) ggX10_isNumberUpTo_X7_isNumber
set_option maxRecDepth 20000 in
theorem ggX10_isNumberUpTo_X7_fromBits : GoodIn wsX10_isNumberUpTo wsX7_fromBits := goodIn_r _ [10, 11, 12, 13, 14, 5, 6, 3, 7, 15, 16, 17] (by decide +kernel) (by decide +kernel)
set_option maxRecDepth 20000 in
theorem gX10_isNumberUpTo_X7_fromBits : GoodIn wsX10_isNumberUpTo (va_wsS RX10 70 yX7_fromBits wsX7_fromBits) := goodIn_app (goodIn_of _ (by decide +kernel)) ggX10_isNumberUpTo_X7_fromBits
theorem dX10_isNumberUpTo_0 : decode cX10_isNumberUpTo 0 = .ok (.iconst 1, 1) := by decide +kernel
theorem dX10_isNumberUpTo_1 : decode cX10_isNumberUpTo 1 = .ok (.lload_n 0, 1) := by decide +kernel
theorem dX10_isNumberUpTo_2 : decode cX10_isNumberUpTo 2 = .ok (.invokestatic 56, 3) := by decide +kernel
theorem dX10_isNumberUpTo_5 : decode cX10_isNumberUpTo 5 = .ok (.ifCond .ne 5, 3) := by decide +kernel
theorem dX10_isNumberUpTo_8 : decode cX10_isNumberUpTo 8 = .ok (.iconst 0, 1) := by decide +kernel
theorem dX10_isNumberUpTo_9 : decode cX10_isNumberUpTo 9 = .ok (.ireturn, 1) := by decide +kernel
theorem dX10_isNumberUpTo_10 : decode cX10_isNumberUpTo 10 = .ok (.iconst 1, 1) := by decide +kernel
theorem dX10_isNumberUpTo_11 : decode cX10_isNumberUpTo 11 = .ok (.lload_n 0, 1) := by decide +kernel
theorem dX10_isNumberUpTo_12 : decode cX10_isNumberUpTo 12 = .ok (.invokestatic 70, 3) := by decide +kernel
theorem dX10_isNumberUpTo_15 : decode cX10_isNumberUpTo 15 = .ok (.dstore_n 3, 1) := by decide +kernel
theorem dX10_isNumberUpTo_16 : decode cX10_isNumberUpTo 16 = .ok (.dload_n 3, 1) := by decide +kernel
theorem dX10_isNumberUpTo_17 : decode cX10_isNumberUpTo 17 = .ok (.iload_n 2, 1) := by decide +kernel
theorem dX10_isNumberUpTo_18 : decode cX10_isNumberUpTo 18 = .ok (.ineg, 1) := by decide +kernel
theorem dX10_isNumberUpTo_19 : decode cX10_isNumberUpTo 19 = .ok (.i2d, 1) := by decide +kernel
theorem dX10_isNumberUpTo_20 : decode cX10_isNumberUpTo 20 = .ok (.dcmp .l, 1) := by decide +kernel
theorem dX10_isNumberUpTo_21 : decode cX10_isNumberUpTo 21 = .ok (.ifCond .lt 14, 3) := by decide +kernel
theorem dX10_isNumberUpTo_24 : decode cX10_isNumberUpTo 24 = .ok (.dload_n 3, 1) := by decide +kernel
theorem dX10_isNumberUpTo_25 : decode cX10_isNumberUpTo 25 = .ok (.iload_n 2, 1) := by decide +kernel
theorem dX10_isNumberUpTo_26 : decode cX10_isNumberUpTo 26 = .ok (.i2d, 1) := by decide +kernel
theorem dX10_isNumberUpTo_27 : decode cX10_isNumberUpTo 27 = .ok (.dcmp .g, 1) := by decide +kernel
theorem dX10_isNumberUpTo_28 : decode cX10_isNumberUpTo 28 = .ok (.ifCond .gt 7, 3) := by decide +kernel
theorem dX10_isNumberUpTo_31 : decode cX10_isNumberUpTo 31 = .ok (.iconst 1, 1) := by decide +kernel
theorem dX10_isNumberUpTo_32 : decode cX10_isNumberUpTo 32 = .ok (.goto 4, 3) := by decide +kernel
theorem dX10_isNumberUpTo_35 : decode cX10_isNumberUpTo 35 = .ok (.iconst 0, 1) := by decide +kernel
theorem dX10_isNumberUpTo_36 : decode cX10_isNumberUpTo 36 = .ok (.ireturn, 1) := by decide +kernel
theorem dX10_rowsOf_0 : decode cX10_rowsOf 0 = .ok (.iload_n 1, 1) := by decide +kernel
theorem dX10_rowsOf_1 : decode cX10_rowsOf 1 = .ok (.ifCond .eq 10, 3) := by decide +kernel
theorem dX10_rowsOf_4 : decode cX10_rowsOf 4 = .ok (.aload_n 0, 1) := by decide +kernel
theorem dX10_rowsOf_5 : decode cX10_rowsOf 5 = .ok (.getfield 15, 3) := by decide +kernel
theorem dX10_rowsOf_8 : decode cX10_rowsOf 8 = .ok (.goto 7, 3) := by decide +kernel
theorem dX10_rowsOf_11 : decode cX10_rowsOf 11 = .ok (.aload_n 0, 1) := by decide +kernel
theorem dX10_rowsOf_12 : decode cX10_rowsOf 12 = .ok (.getfield 11, 3) := by decide +kernel
theorem dX10_rowsOf_15 : decode cX10_rowsOf 15 = .ok (.areturn, 1) := by decide +kernel
set_option maxRecDepth 20000 in
theorem ggX10_itemFailure_X1_size : GoodIn wsX10_itemFailure wsX1_size := goodIn_r _ [6, 7, 17] (by decide +kernel) (by decide +kernel)
set_option maxRecDepth 20000 in
theorem gX10_itemFailure_X1_size_u149X1 : GoodIn wsX10_itemFailure (va_wsU RX10 149 RX1 "LoopMixer$Row" ⟨"LoopMixer$Row", "size", "()I"⟩ yX1_size wsX1_size) := goodIn_app (goodIn_of _ (by decide +kernel)) ggX10_itemFailure_X1_size
set_option maxRecDepth 20000 in
theorem ggX10_itemFailure_X3_size : GoodIn wsX10_itemFailure wsX3_size := goodIn_r _ [11, 12, 18] (by decide +kernel) (by decide +kernel)
set_option maxRecDepth 20000 in
theorem gX10_itemFailure_X3_size_u149X3 : GoodIn wsX10_itemFailure (va_wsU RX10 149 RX3 "LoopMixer$Row" ⟨"LoopMixer$Row", "size", "()I"⟩ yX3_size wsX3_size) := goodIn_app (goodIn_of _ (by decide +kernel)) ggX10_itemFailure_X3_size
set_option maxRecDepth 20000 in
theorem ggX10_itemFailure_X10_isBelow : GoodIn wsX10_itemFailure wsX10_isBelow := goodIn_r _ [16] (by decide +kernel) (by decide +kernel)
set_option maxRecDepth 20000 in
theorem gX10_itemFailure_X10_isBelow : GoodIn wsX10_itemFailure (va_wsS RX10 40 yX10_isBelow wsX10_isBelow) := goodIn_app (goodIn_of _ (by decide +kernel)) ggX10_itemFailure_X10_isBelow
theorem dX10_itemFailure_0 : decode cX10_itemFailure 0 = .ok (.aload_n 0, 1) := by decide +kernel
theorem dX10_itemFailure_1 : decode cX10_itemFailure 1 = .ok (.ifnonnull 5, 3) := by decide +kernel
theorem dX10_itemFailure_4 : decode cX10_itemFailure 4 = .ok (.iconst 1, 1) := by decide +kernel
theorem dX10_itemFailure_5 : decode cX10_itemFailure 5 = .ok (.ireturn, 1) := by decide +kernel
theorem dX10_itemFailure_6 : decode cX10_itemFailure 6 = .ok (.iload_n 1, 1) := by decide +kernel
theorem dX10_itemFailure_7 : decode cX10_itemFailure 7 = .ok (.aload_n 0, 1) := by decide +kernel
theorem dX10_itemFailure_8 : decode cX10_itemFailure 8 = .ok (.invokevirtual 149, 3) := by decide +kernel
theorem dX10_itemFailure_11 : decode cX10_itemFailure 11 = .ok (.invokestatic 40, 3) := by decide +kernel
theorem dX10_itemFailure_14 : decode cX10_itemFailure 14 = .ok (.ifCond .eq 7, 3) := by decide +kernel
theorem dX10_itemFailure_17 : decode cX10_itemFailure 17 = .ok (.iconst 0, 1) := by decide +kernel
theorem dX10_itemFailure_18 : decode cX10_itemFailure 18 = .ok (.goto 4, 3) := by decide +kernel
theorem dX10_itemFailure_21 : decode cX10_itemFailure 21 = .ok (.iconst 2, 1) := by decide +kernel
theorem dX10_itemFailure_22 : decode cX10_itemFailure 22 = .ok (.ireturn, 1) := by decide +kernel
set_option maxRecDepth 20000 in
theorem ggX10_placeFailure_X10_isBelow : GoodIn wsX10_placeFailure wsX10_isBelow := goodIn_r _ [4] (by decide +kernel) (by decide +kernel)
set_option maxRecDepth 20000 in
theorem gX10_placeFailure_X10_isBelow : GoodIn wsX10_placeFailure (va_wsS RX10 40 yX10_isBelow wsX10_isBelow) := goodIn_app (goodIn_of _ (by decide +kernel)) ggX10_placeFailure_X10_isBelow
theorem dX10_placeFailure_0 : decode cX10_placeFailure 0 = .ok (.aload_n 0, 1) := by decide +kernel
theorem dX10_placeFailure_1 : decode cX10_placeFailure 1 = .ok (.ifnonnull 5, 3) := by decide +kernel
theorem dX10_placeFailure_4 : decode cX10_placeFailure 4 = .ok (.iconst 1, 1) := by decide +kernel
theorem dX10_placeFailure_5 : decode cX10_placeFailure 5 = .ok (.ireturn, 1) := by decide +kernel
theorem dX10_placeFailure_6 : decode cX10_placeFailure 6 = .ok (.iload_n 1, 1) := by decide +kernel
theorem dX10_placeFailure_7 : decode cX10_placeFailure 7 = .ok (.iconst 3, 1) := by decide +kernel
theorem dX10_placeFailure_8 : decode cX10_placeFailure 8 = .ok (.invokestatic 40, 3) := by decide +kernel
theorem dX10_placeFailure_11 : decode cX10_placeFailure 11 = .ok (.ifCond .eq 7, 3) := by decide +kernel
theorem dX10_placeFailure_14 : decode cX10_placeFailure 14 = .ok (.iconst 0, 1) := by decide +kernel
theorem dX10_placeFailure_15 : decode cX10_placeFailure 15 = .ok (.goto 4, 3) := by decide +kernel
theorem dX10_placeFailure_18 : decode cX10_placeFailure 18 = .ok (.iconst 2, 1) := by decide +kernel
theorem dX10_placeFailure_19 : decode cX10_placeFailure 19 = .ok (.ireturn, 1) := by decide +kernel
set_option maxRecDepth 20000 in
theorem ggX10_isOf_X0_hasKind : GoodIn wsX10_isOf wsX0_hasKind := goodIn_r _ [6] (by decide +kernel) (by decide +kernel)
set_option maxRecDepth 20000 in
theorem gX10_isOf_X0_hasKind_u153X0 : GoodIn wsX10_isOf (va_wsU RX10 153 RX0 "LoopMixer$Effect" ⟨"LoopMixer$Effect", "hasKind", "(I)Z"⟩ yX0_hasKind wsX0_hasKind) := goodIn_app (goodIn_of _ (by decide +kernel)) ggX10_isOf_X0_hasKind
set_option maxRecDepth 20000 in
theorem ggX10_isOf_X4_hasKind : GoodIn wsX10_isOf wsX4_hasKind := goodIn_r _ [10, 11, 12, 13, 14, 15, 16] (by decide +kernel) (by decide +kernel)
set_option maxRecDepth 20000 in
theorem gX10_isOf_X4_hasKind_u153X4 : GoodIn wsX10_isOf (va_wsU RX10 153 RX4 "LoopMixer$Effect" ⟨"LoopMixer$Effect", "hasKind", "(I)Z"⟩ yX4_hasKind wsX4_hasKind) := goodIn_app (goodIn_of _ (by decide +kernel)) ggX10_isOf_X4_hasKind
set_option maxRecDepth 20000 in
theorem ggX10_isOf_X5_hasKind : GoodIn wsX10_isOf wsX5_hasKind := goodIn_r _ [16] (by decide +kernel) (by decide +kernel)
set_option maxRecDepth 20000 in
theorem gX10_isOf_X5_hasKind_u153X5 : GoodIn wsX10_isOf (va_wsU RX10 153 RX5 "LoopMixer$Effect" ⟨"LoopMixer$Effect", "hasKind", "(I)Z"⟩ yX5_hasKind wsX5_hasKind) := goodIn_app (goodIn_of _ (by decide +kernel)) ggX10_isOf_X5_hasKind
theorem dX10_isOf_0 : decode cX10_isOf 0 = .ok (.aload_n 0, 1) := by decide +kernel
theorem dX10_isOf_1 : decode cX10_isOf 1 = .ok (.ifnull 11, 3) := by decide +kernel
theorem dX10_isOf_4 : decode cX10_isOf 4 = .ok (.aload_n 0, 1) := by decide +kernel
theorem dX10_isOf_5 : decode cX10_isOf 5 = .ok (.iload_n 1, 1) := by decide +kernel
theorem dX10_isOf_6 : decode cX10_isOf 6 = .ok (.invokevirtual 153, 3) := by decide +kernel
theorem dX10_isOf_9 : decode cX10_isOf 9 = .ok (.ifCond .eq 7, 3) := by decide +kernel
theorem dX10_isOf_12 : decode cX10_isOf 12 = .ok (.iconst 1, 1) := by decide +kernel
theorem dX10_isOf_13 : decode cX10_isOf 13 = .ok (.goto 4, 3) := by decide +kernel
theorem dX10_isOf_16 : decode cX10_isOf 16 = .ok (.iconst 0, 1) := by decide +kernel
theorem dX10_isOf_17 : decode cX10_isOf 17 = .ok (.ireturn, 1) := by decide +kernel
set_option maxRecDepth 20000 in
theorem ggX10_newEffect_X5_init : GoodIn wsX10_newEffect wsX5_init := goodIn_r _ [12, 13, 14, 15, 16, 17, 18, 19, 20, 31, 30, 29] (by decide +kernel) (by decide +kernel)
set_option maxRecDepth 20000 in
theorem gX10_newEffect_X5_init : GoodIn wsX10_newEffect (wsX5_init) := ggX10_newEffect_X5_init
set_option maxRecDepth 20000 in
theorem ggX10_newEffect_X4_init : GoodIn wsX10_newEffect wsX4_init := goodIn_r _ [23, 24, 11, 3, 12, 13, 14, 15, 16, 17, 18, 19, 20, 31, 30, 29] (by decide +kernel) (by decide +kernel)
set_option maxRecDepth 20000 in
theorem gX10_newEffect_X4_init : GoodIn wsX10_newEffect (wsX4_init) := ggX10_newEffect_X4_init
set_option maxRecDepth 20000 in
theorem ggX10_newEffect_X0_init : GoodIn wsX10_newEffect wsX0_init := goodIn_r _ [27, 28, 14, 15, 16, 17, 18, 19, 20, 31, 30, 29] (by decide +kernel) (by decide +kernel)
set_option maxRecDepth 20000 in
theorem gX10_newEffect_X0_init : GoodIn wsX10_newEffect (wsX0_init) := ggX10_newEffect_X0_init
theorem dX10_newEffect_0 : decode cX10_newEffect 0 = .ok (.iload_n 0, 1) := by decide +kernel
theorem dX10_newEffect_1 : decode cX10_newEffect 1 = .ok (.lookupswitch 45 #[(0, 27), (1, 36)], 27) := by decide +kernel
theorem dX10_newEffect_28 : decode cX10_newEffect 28 = .ok (.new 157, 3) := by decide +kernel
theorem dX10_newEffect_31 : decode cX10_newEffect 31 = .ok (.dup, 1) := by decide +kernel
theorem dX10_newEffect_32 : decode cX10_newEffect 32 = .ok (.dload_n 1, 1) := by decide +kernel
theorem dX10_newEffect_33 : decode cX10_newEffect 33 = .ok (.invokespecial 159, 3) := by decide +kernel
theorem dX10_newEffect_36 : decode cX10_newEffect 36 = .ok (.areturn, 1) := by decide +kernel
theorem dX10_newEffect_37 : decode cX10_newEffect 37 = .ok (.new 162, 3) := by decide +kernel
theorem dX10_newEffect_40 : decode cX10_newEffect 40 = .ok (.dup, 1) := by decide +kernel
theorem dX10_newEffect_41 : decode cX10_newEffect 41 = .ok (.dload_n 1, 1) := by decide +kernel
theorem dX10_newEffect_42 : decode cX10_newEffect 42 = .ok (.invokespecial 164, 3) := by decide +kernel
theorem dX10_newEffect_45 : decode cX10_newEffect 45 = .ok (.areturn, 1) := by decide +kernel
theorem dX10_newEffect_46 : decode cX10_newEffect 46 = .ok (.new 165, 3) := by decide +kernel
theorem dX10_newEffect_49 : decode cX10_newEffect 49 = .ok (.dup, 1) := by decide +kernel
theorem dX10_newEffect_50 : decode cX10_newEffect 50 = .ok (.dload_n 1, 1) := by decide +kernel
theorem dX10_newEffect_51 : decode cX10_newEffect 51 = .ok (.invokespecial 167, 3) := by decide +kernel
theorem dX10_newEffect_54 : decode cX10_newEffect 54 = .ok (.areturn, 1) := by decide +kernel
set_option maxRecDepth 20000 in
theorem ggX10_step_X10_stepFailure : GoodIn wsX10_step wsX10_stepFailure := goodIn_r _ [9, 10, 11, 8, 12, 13, 14, 15, 16, 17, 18, 19, 20, 21, 22, 23, 24, 25, 26, 27, 28, 29, 30, 31, 32, 33, 116, 117, 118, 119, 120, 121, 122, 123, 124, 125] (by decide +kernel) (by decide +kernel)
set_option maxRecDepth 20000 in
theorem gX10_step_X10_stepFailure : GoodIn wsX10_step (va_wsS RX10 177 yX10_stepFailure wsX10_stepFailure) := goodIn_app (goodIn_of _ (by decide +kernel)) ggX10_step_X10_stepFailure
set_option maxRecDepth 20000 in
theorem ggX10_step_X1_item : GoodIn wsX10_step wsX1_item := goodIn_r _ [38, 19, 122] (by decide +kernel) (by decide +kernel)
set_option maxRecDepth 20000 in
theorem gX10_step_X1_item_u78X1 : GoodIn wsX10_step (va_wsU RX10 78 RX1 "LoopMixer$Row" ⟨"LoopMixer$Row", "item", "(I)D"⟩ yX1_item wsX1_item) := goodIn_app (goodIn_of _ (by decide +kernel)) ggX10_step_X1_item
set_option maxRecDepth 20000 in
theorem ggX10_step_X3_item : GoodIn wsX10_step wsX3_item := goodIn_r _ [41, 24, 123] (by decide +kernel) (by decide +kernel)
set_option maxRecDepth 20000 in
theorem gX10_step_X3_item_u78X3 : GoodIn wsX10_step (va_wsU RX10 78 RX3 "LoopMixer$Row" ⟨"LoopMixer$Row", "item", "(I)D"⟩ yX3_item wsX3_item) := goodIn_app (goodIn_of _ (by decide +kernel)) ggX10_step_X3_item
set_option maxRecDepth 20000 in
theorem ggX10_step_X1_size : GoodIn wsX10_step wsX1_size := goodIn_r _ [18, 19, 122] (by decide +kernel) (by decide +kernel)
set_option maxRecDepth 20000 in
theorem gX10_step_X1_size_u149X1 : GoodIn wsX10_step (va_wsU RX10 149 RX1 "LoopMixer$Row" ⟨"LoopMixer$Row", "size", "()I"⟩ yX1_size wsX1_size) := goodIn_app (goodIn_of _ (by decide +kernel)) ggX10_step_X1_size
set_option maxRecDepth 20000 in
theorem ggX10_step_X3_size : GoodIn wsX10_step wsX3_size := goodIn_r _ [23, 24, 123] (by decide +kernel) (by decide +kernel)
set_option maxRecDepth 20000 in
theorem gX10_step_X3_size_u149X3 : GoodIn wsX10_step (va_wsU RX10 149 RX3 "LoopMixer$Row" ⟨"LoopMixer$Row", "size", "()I"⟩ yX3_size wsX3_size) := goodIn_app (goodIn_of _ (by decide +kernel)) ggX10_step_X3_size
set_option maxRecDepth 20000 in
theorem ggX10_step_X7_held : GoodIn wsX10_step wsX7_held := goodIn_r _ [45, 46] (by decide +kernel) (by decide +kernel)
set_option maxRecDepth 20000 in
theorem gX10_step_X7_held : GoodIn wsX10_step (va_wsS RX10 181 yX7_held wsX7_held) := goodIn_app (goodIn_of _ (by decide +kernel)) ggX10_step_X7_held
set_option maxRecDepth 20000 in
theorem ggX10_step_X8_heldFrom : GoodIn wsX10_step wsX8_heldFrom := goodIn_r _ [50, 33, 51, 52, 53, 54, 55, 56, 57, 58, 59, 60, 61, 62, 63, 64, 65, 66, 67, 68, 69, 70, 71, 72, 73, 74, 75, 76, 77, 78, 79, 80, 81, 82, 83, 84, 85, 44, 86, 87, 88, 89, 90, 91, 92, 93, 94, 95, 43, 45, 46, 96, 97, 124, 125, 126, 127, 128] (by decide +kernel) (by decide +kernel)
set_option maxRecDepth 20000 in
theorem gX10_step_X8_heldFrom : GoodIn wsX10_step (wsV RX10 185 RX8 yX8_heldFrom wsX8_heldFrom) := goodIn_app (goodIn_of _ (by decide +kernel)) ggX10_step_X8_heldFrom
set_option maxRecDepth 20000 in
theorem ggX10_step_X6_moveOn : GoodIn wsX10_step wsX6_moveOn := goodIn_r _ [102, 103, 104, 105, 106, 85, 44, 86, 87, 88, 89, 90, 91, 92, 93, 116, 117, 118, 119, 120, 121] (by decide +kernel) (by decide +kernel)
set_option maxRecDepth 20000 in
theorem gX10_step_X6_moveOn : GoodIn wsX10_step (wsV RX10 188 RX6 yX6_moveOn wsX6_moveOn) := goodIn_app (goodIn_of _ (by decide +kernel)) ggX10_step_X6_moveOn
theorem dX10_step_0 : decode cX10_step 0 = .ok (.aload_n 0, 1) := by decide +kernel
theorem dX10_step_1 : decode cX10_step 1 = .ok (.getfield 11, 3) := by decide +kernel
theorem dX10_step_4 : decode cX10_step 4 = .ok (.aload_n 1, 1) := by decide +kernel
theorem dX10_step_5 : decode cX10_step 5 = .ok (.getfield 168, 3) := by decide +kernel
theorem dX10_step_8 : decode cX10_step 8 = .ok (.aaload, 1) := by decide +kernel
theorem dX10_step_9 : decode cX10_step 9 = .ok (.astore_n 2, 1) := by decide +kernel
theorem dX10_step_10 : decode cX10_step 10 = .ok (.aload_n 1, 1) := by decide +kernel
theorem dX10_step_11 : decode cX10_step 11 = .ok (.getfield 171, 3) := by decide +kernel
theorem dX10_step_14 : decode cX10_step 14 = .ok (.ifCond .ge 7, 3) := by decide +kernel
theorem dX10_step_17 : decode cX10_step 17 = .ok (.aconst_null, 1) := by decide +kernel
theorem dX10_step_18 : decode cX10_step 18 = .ok (.goto 12, 3) := by decide +kernel
theorem dX10_step_21 : decode cX10_step 21 = .ok (.aload_n 0, 1) := by decide +kernel
theorem dX10_step_22 : decode cX10_step 22 = .ok (.getfield 15, 3) := by decide +kernel
theorem dX10_step_25 : decode cX10_step 25 = .ok (.aload_n 1, 1) := by decide +kernel
theorem dX10_step_26 : decode cX10_step 26 = .ok (.getfield 171, 3) := by decide +kernel
theorem dX10_step_29 : decode cX10_step 29 = .ok (.aaload, 1) := by decide +kernel
theorem dX10_step_30 : decode cX10_step 30 = .ok (.astore_n 3, 1) := by decide +kernel
theorem dX10_step_31 : decode cX10_step 31 = .ok (.aload_n 1, 1) := by decide +kernel
theorem dX10_step_32 : decode cX10_step 32 = .ok (.getfield 174, 3) := by decide +kernel
theorem dX10_step_35 : decode cX10_step 35 = .ok (.ifCond .ge 7, 3) := by decide +kernel
theorem dX10_step_38 : decode cX10_step 38 = .ok (.aconst_null, 1) := by decide +kernel
theorem dX10_step_39 : decode cX10_step 39 = .ok (.goto 12, 3) := by decide +kernel
theorem dX10_step_42 : decode cX10_step 42 = .ok (.aload_n 0, 1) := by decide +kernel
theorem dX10_step_43 : decode cX10_step 43 = .ok (.getfield 26, 3) := by decide +kernel
theorem dX10_step_46 : decode cX10_step 46 = .ok (.aload_n 1, 1) := by decide +kernel
theorem dX10_step_47 : decode cX10_step 47 = .ok (.getfield 174, 3) := by decide +kernel
theorem dX10_step_50 : decode cX10_step 50 = .ok (.aaload, 1) := by decide +kernel
theorem dX10_step_51 : decode cX10_step 51 = .ok (.astore 4, 2) := by decide +kernel
theorem dX10_step_53 : decode cX10_step 53 = .ok (.aload_n 1, 1) := by decide +kernel
theorem dX10_step_54 : decode cX10_step 54 = .ok (.aload_n 2, 1) := by decide +kernel
theorem dX10_step_55 : decode cX10_step 55 = .ok (.aload_n 3, 1) := by decide +kernel
theorem dX10_step_56 : decode cX10_step 56 = .ok (.aload 4, 2) := by decide +kernel
theorem dX10_step_58 : decode cX10_step 58 = .ok (.invokestatic 177, 3) := by decide +kernel
theorem dX10_step_61 : decode cX10_step 61 = .ok (.istore 5, 2) := by decide +kernel
theorem dX10_step_63 : decode cX10_step 63 = .ok (.iload 5, 2) := by decide +kernel
theorem dX10_step_65 : decode cX10_step 65 = .ok (.ifCond .eq 6, 3) := by decide +kernel
theorem dX10_step_68 : decode cX10_step 68 = .ok (.iload 5, 2) := by decide +kernel
theorem dX10_step_70 : decode cX10_step 70 = .ok (.ireturn, 1) := by decide +kernel
theorem dX10_step_71 : decode cX10_step 71 = .ok (.aload_n 2, 1) := by decide +kernel
theorem dX10_step_72 : decode cX10_step 72 = .ok (.aload_n 1, 1) := by decide +kernel
theorem dX10_step_73 : decode cX10_step 73 = .ok (.getfield 135, 3) := by decide +kernel
theorem dX10_step_76 : decode cX10_step 76 = .ok (.d2i, 1) := by decide +kernel
theorem dX10_step_77 : decode cX10_step 77 = .ok (.invokevirtual 78, 3) := by decide +kernel
theorem dX10_step_80 : decode cX10_step 80 = .ok (.d2f, 1) := by decide +kernel
theorem dX10_step_81 : decode cX10_step 81 = .ok (.fstore 6, 2) := by decide +kernel
theorem dX10_step_83 : decode cX10_step 83 = .ok (.aload_n 3, 1) := by decide +kernel
theorem dX10_step_84 : decode cX10_step 84 = .ok (.ifnull 27, 3) := by decide +kernel
theorem dX10_step_87 : decode cX10_step 87 = .ok (.fload 6, 2) := by decide +kernel
theorem dX10_step_89 : decode cX10_step 89 = .ok (.f2d, 1) := by decide +kernel
theorem dX10_step_90 : decode cX10_step 90 = .ok (.aload_n 3, 1) := by decide +kernel
theorem dX10_step_91 : decode cX10_step 91 = .ok (.aload_n 1, 1) := by decide +kernel
theorem dX10_step_92 : decode cX10_step 92 = .ok (.getfield 139, 3) := by decide +kernel
theorem dX10_step_95 : decode cX10_step 95 = .ok (.aload_n 3, 1) := by decide +kernel
theorem dX10_step_96 : decode cX10_step 96 = .ok (.invokevirtual 149, 3) := by decide +kernel
theorem dX10_step_99 : decode cX10_step 99 = .ok (.i2l, 1) := by decide +kernel
theorem dX10_step_100 : decode cX10_step 100 = .ok (.lrem, 1) := by decide +kernel
theorem dX10_step_101 : decode cX10_step 101 = .ok (.l2i, 1) := by decide +kernel
theorem dX10_step_102 : decode cX10_step 102 = .ok (.invokevirtual 78, 3) := by decide +kernel
theorem dX10_step_105 : decode cX10_step 105 = .ok (.dmul, 1) := by decide +kernel
theorem dX10_step_106 : decode cX10_step 106 = .ok (.invokestatic 181, 3) := by decide +kernel
theorem dX10_step_109 : decode cX10_step 109 = .ok (.fstore 6, 2) := by decide +kernel
theorem dX10_step_111 : decode cX10_step 111 = .ok (.aload 4, 2) := by decide +kernel
theorem dX10_step_113 : decode cX10_step 113 = .ok (.ifnull 12, 3) := by decide +kernel
theorem dX10_step_116 : decode cX10_step 116 = .ok (.aload 4, 2) := by decide +kernel
theorem dX10_step_118 : decode cX10_step 118 = .ok (.fload 6, 2) := by decide +kernel
theorem dX10_step_120 : decode cX10_step 120 = .ok (.invokevirtual 185, 3) := by decide +kernel
theorem dX10_step_123 : decode cX10_step 123 = .ok (.fstore 6, 2) := by decide +kernel
theorem dX10_step_125 : decode cX10_step 125 = .ok (.aload_n 1, 1) := by decide +kernel
theorem dX10_step_126 : decode cX10_step 126 = .ok (.getfield 139, 3) := by decide +kernel
theorem dX10_step_129 : decode cX10_step 129 = .ok (.ldc2_w 186, 3) := by decide +kernel
theorem dX10_step_132 : decode cX10_step 132 = .ok (.lrem, 1) := by decide +kernel
theorem dX10_step_133 : decode cX10_step 133 = .ok (.l2i, 1) := by decide +kernel
theorem dX10_step_134 : decode cX10_step 134 = .ok (.istore 7, 2) := by decide +kernel
theorem dX10_step_136 : decode cX10_step 136 = .ok (.aload_n 0, 1) := by decide +kernel
theorem dX10_step_137 : decode cX10_step 137 = .ok (.getfield 36, 3) := by decide +kernel
theorem dX10_step_140 : decode cX10_step 140 = .ok (.iload 7, 2) := by decide +kernel
theorem dX10_step_142 : decode cX10_step 142 = .ok (.aload_n 0, 1) := by decide +kernel
theorem dX10_step_143 : decode cX10_step 143 = .ok (.getfield 36, 3) := by decide +kernel
theorem dX10_step_146 : decode cX10_step 146 = .ok (.iload 7, 2) := by decide +kernel
theorem dX10_step_148 : decode cX10_step 148 = .ok (.faload, 1) := by decide +kernel
theorem dX10_step_149 : decode cX10_step 149 = .ok (.f2d, 1) := by decide +kernel
theorem dX10_step_150 : decode cX10_step 150 = .ok (.fload 6, 2) := by decide +kernel
theorem dX10_step_152 : decode cX10_step 152 = .ok (.f2d, 1) := by decide +kernel
theorem dX10_step_153 : decode cX10_step 153 = .ok (.dadd, 1) := by decide +kernel
theorem dX10_step_154 : decode cX10_step 154 = .ok (.invokestatic 181, 3) := by decide +kernel
theorem dX10_step_157 : decode cX10_step 157 = .ok (.fastore, 1) := by decide +kernel
theorem dX10_step_158 : decode cX10_step 158 = .ok (.aload_n 1, 1) := by decide +kernel
theorem dX10_step_159 : decode cX10_step 159 = .ok (.aload_n 2, 1) := by decide +kernel
theorem dX10_step_160 : decode cX10_step 160 = .ok (.invokevirtual 149, 3) := by decide +kernel
theorem dX10_step_163 : decode cX10_step 163 = .ok (.invokevirtual 188, 3) := by decide +kernel
theorem dX10_step_166 : decode cX10_step 166 = .ok (.iconst 0, 1) := by decide +kernel
theorem dX10_step_167 : decode cX10_step 167 = .ok (.ireturn, 1) := by decide +kernel
set_option maxRecDepth 20000 in
theorem ggX10_stepFailure_X10_itemFailure : GoodIn wsX10_stepFailure wsX10_itemFailure := goodIn_r _ [4, 5, 6, 7, 8, 9, 10, 11, 12, 13, 14, 15, 16, 17, 18, 3, 19, 32, 33] (by decide +kernel) (by decide +kernel)
set_option maxRecDepth 20000 in
theorem gX10_stepFailure_X10_itemFailure : GoodIn wsX10_stepFailure (va_wsS RX10 62 yX10_itemFailure wsX10_itemFailure) := goodIn_app (goodIn_of _ (by decide +kernel)) ggX10_stepFailure_X10_itemFailure
set_option maxRecDepth 20000 in
theorem ggX10_stepFailure_X8_hasBarePlace : GoodIn wsX10_stepFailure wsX8_hasBarePlace := goodIn_r _ [24, 25, 34, 35] (by decide +kernel) (by decide +kernel)
set_option maxRecDepth 20000 in
theorem gX10_stepFailure_X8_hasBarePlace : GoodIn wsX10_stepFailure (wsV RX10 191 RX8 yX8_hasBarePlace wsX8_hasBarePlace) := goodIn_app (goodIn_of _ (by decide +kernel)) ggX10_stepFailure_X8_hasBarePlace
theorem dX10_stepFailure_0 : decode cX10_stepFailure 0 = .ok (.aload_n 1, 1) := by decide +kernel
theorem dX10_stepFailure_1 : decode cX10_stepFailure 1 = .ok (.aload_n 0, 1) := by decide +kernel
theorem dX10_stepFailure_2 : decode cX10_stepFailure 2 = .ok (.getfield 135, 3) := by decide +kernel
theorem dX10_stepFailure_5 : decode cX10_stepFailure 5 = .ok (.d2i, 1) := by decide +kernel
theorem dX10_stepFailure_6 : decode cX10_stepFailure 6 = .ok (.invokestatic 62, 3) := by decide +kernel
theorem dX10_stepFailure_9 : decode cX10_stepFailure 9 = .ok (.istore 4, 2) := by decide +kernel
theorem dX10_stepFailure_11 : decode cX10_stepFailure 11 = .ok (.iload 4, 2) := by decide +kernel
theorem dX10_stepFailure_13 : decode cX10_stepFailure 13 = .ok (.ifCond .ne 17, 3) := by decide +kernel
theorem dX10_stepFailure_16 : decode cX10_stepFailure 16 = .ok (.aload_n 0, 1) := by decide +kernel
theorem dX10_stepFailure_17 : decode cX10_stepFailure 17 = .ok (.getfield 171, 3) := by decide +kernel
theorem dX10_stepFailure_20 : decode cX10_stepFailure 20 = .ok (.ifCond .lt 10, 3) := by decide +kernel
theorem dX10_stepFailure_23 : decode cX10_stepFailure 23 = .ok (.aload_n 2, 1) := by decide +kernel
theorem dX10_stepFailure_24 : decode cX10_stepFailure 24 = .ok (.iconst 0, 1) := by decide +kernel
theorem dX10_stepFailure_25 : decode cX10_stepFailure 25 = .ok (.invokestatic 62, 3) := by decide +kernel
theorem dX10_stepFailure_28 : decode cX10_stepFailure 28 = .ok (.istore 4, 2) := by decide +kernel
theorem dX10_stepFailure_30 : decode cX10_stepFailure 30 = .ok (.iload 4, 2) := by decide +kernel
theorem dX10_stepFailure_32 : decode cX10_stepFailure 32 = .ok (.ifCond .ne 24, 3) := by decide +kernel
theorem dX10_stepFailure_35 : decode cX10_stepFailure 35 = .ok (.aload_n 0, 1) := by decide +kernel
theorem dX10_stepFailure_36 : decode cX10_stepFailure 36 = .ok (.getfield 174, 3) := by decide +kernel
theorem dX10_stepFailure_39 : decode cX10_stepFailure 39 = .ok (.ifCond .lt 17, 3) := by decide +kernel
theorem dX10_stepFailure_42 : decode cX10_stepFailure 42 = .ok (.aload_n 3, 1) := by decide +kernel
theorem dX10_stepFailure_43 : decode cX10_stepFailure 43 = .ok (.ifnull 10, 3) := by decide +kernel
theorem dX10_stepFailure_46 : decode cX10_stepFailure 46 = .ok (.aload_n 3, 1) := by decide +kernel
theorem dX10_stepFailure_47 : decode cX10_stepFailure 47 = .ok (.invokevirtual 191, 3) := by decide +kernel
theorem dX10_stepFailure_50 : decode cX10_stepFailure 50 = .ok (.ifCond .eq 6, 3) := by decide +kernel
theorem dX10_stepFailure_53 : decode cX10_stepFailure 53 = .ok (.iconst 1, 1) := by decide +kernel
theorem dX10_stepFailure_54 : decode cX10_stepFailure 54 = .ok (.istore 4, 2) := by decide +kernel
theorem dX10_stepFailure_56 : decode cX10_stepFailure 56 = .ok (.iload 4, 2) := by decide +kernel
theorem dX10_stepFailure_58 : decode cX10_stepFailure 58 = .ok (.ireturn, 1) := by decide +kernel
theorem dX11_init_0 : decode cX11_init 0 = .ok (.aload_n 0, 1) := by decide +kernel
theorem dX11_init_1 : decode cX11_init 1 = .ok (.invokespecial 3, 3) := by decide +kernel
theorem dX11_init_4 : decode cX11_init 4 = .ok (.aload_n 0, 1) := by decide +kernel
theorem dX11_init_5 : decode cX11_init 5 = .ok (.sipush 600, 3) := by decide +kernel
theorem dX11_init_8 : decode cX11_init 8 = .ok (.newarray .int, 2) := by decide +kernel
theorem dX11_init_10 : decode cX11_init 10 = .ok (.putfield 9, 3) := by decide +kernel
theorem dX11_init_13 : decode cX11_init 13 = .ok (.aload_n 0, 1) := by decide +kernel
theorem dX11_init_14 : decode cX11_init 14 = .ok (.sipush 9600, 3) := by decide +kernel
theorem dX11_init_17 : decode cX11_init 17 = .ok (.newarray .double, 2) := by decide +kernel
theorem dX11_init_19 : decode cX11_init 19 = .ok (.putfield 15, 3) := by decide +kernel
theorem dX11_init_22 : decode cX11_init 22 = .ok (.aload_n 0, 1) := by decide +kernel
theorem dX11_init_23 : decode cX11_init 23 = .ok (.bipush 12, 2) := by decide +kernel
theorem dX11_init_25 : decode cX11_init 25 = .ok (.newarray .int, 2) := by decide +kernel
theorem dX11_init_27 : decode cX11_init 27 = .ok (.dup, 1) := by decide +kernel
theorem dX11_init_28 : decode cX11_init 28 = .ok (.iconst 0, 1) := by decide +kernel
theorem dX11_init_29 : decode cX11_init 29 = .ok (.iconst (-1), 1) := by decide +kernel
theorem dX11_init_30 : decode cX11_init 30 = .ok (.iastore, 1) := by decide +kernel
theorem dX11_init_31 : decode cX11_init 31 = .ok (.dup, 1) := by decide +kernel
theorem dX11_init_32 : decode cX11_init 32 = .ok (.iconst 1, 1) := by decide +kernel
theorem dX11_init_33 : decode cX11_init 33 = .ok (.iconst (-1), 1) := by decide +kernel
theorem dX11_init_34 : decode cX11_init 34 = .ok (.iastore, 1) := by decide +kernel
theorem dX11_init_35 : decode cX11_init 35 = .ok (.dup, 1) := by decide +kernel
theorem dX11_init_36 : decode cX11_init 36 = .ok (.iconst 2, 1) := by decide +kernel
theorem dX11_init_37 : decode cX11_init 37 = .ok (.iconst (-1), 1) := by decide +kernel
theorem dX11_init_38 : decode cX11_init 38 = .ok (.iastore, 1) := by decide +kernel
theorem dX11_init_39 : decode cX11_init 39 = .ok (.dup, 1) := by decide +kernel
theorem dX11_init_40 : decode cX11_init 40 = .ok (.iconst 3, 1) := by decide +kernel
theorem dX11_init_41 : decode cX11_init 41 = .ok (.iconst (-1), 1) := by decide +kernel
theorem dX11_init_42 : decode cX11_init 42 = .ok (.iastore, 1) := by decide +kernel
theorem dX11_init_43 : decode cX11_init 43 = .ok (.dup, 1) := by decide +kernel
theorem dX11_init_44 : decode cX11_init 44 = .ok (.iconst 4, 1) := by decide +kernel
theorem dX11_init_45 : decode cX11_init 45 = .ok (.iconst (-1), 1) := by decide +kernel
theorem dX11_init_46 : decode cX11_init 46 = .ok (.iastore, 1) := by decide +kernel
theorem dX11_init_47 : decode cX11_init 47 = .ok (.dup, 1) := by decide +kernel
theorem dX11_init_48 : decode cX11_init 48 = .ok (.iconst 5, 1) := by decide +kernel
theorem dX11_init_49 : decode cX11_init 49 = .ok (.iconst (-1), 1) := by decide +kernel
theorem dX11_init_50 : decode cX11_init 50 = .ok (.iastore, 1) := by decide +kernel
theorem dX11_init_51 : decode cX11_init 51 = .ok (.dup, 1) := by decide +kernel
theorem dX11_init_52 : decode cX11_init 52 = .ok (.bipush 6, 2) := by decide +kernel
theorem dX11_init_54 : decode cX11_init 54 = .ok (.iconst (-1), 1) := by decide +kernel
theorem dX11_init_55 : decode cX11_init 55 = .ok (.iastore, 1) := by decide +kernel
theorem dX11_init_56 : decode cX11_init 56 = .ok (.dup, 1) := by decide +kernel
theorem dX11_init_57 : decode cX11_init 57 = .ok (.bipush 7, 2) := by decide +kernel
theorem dX11_init_59 : decode cX11_init 59 = .ok (.iconst (-1), 1) := by decide +kernel
theorem dX11_init_60 : decode cX11_init 60 = .ok (.iastore, 1) := by decide +kernel
theorem dX11_init_61 : decode cX11_init 61 = .ok (.dup, 1) := by decide +kernel
theorem dX11_init_62 : decode cX11_init 62 = .ok (.bipush 8, 2) := by decide +kernel
theorem dX11_init_64 : decode cX11_init 64 = .ok (.iconst (-1), 1) := by decide +kernel
theorem dX11_init_65 : decode cX11_init 65 = .ok (.iastore, 1) := by decide +kernel
theorem dX11_init_66 : decode cX11_init 66 = .ok (.dup, 1) := by decide +kernel
theorem dX11_init_67 : decode cX11_init 67 = .ok (.bipush 9, 2) := by decide +kernel
theorem dX11_init_69 : decode cX11_init 69 = .ok (.iconst (-1), 1) := by decide +kernel
theorem dX11_init_70 : decode cX11_init 70 = .ok (.iastore, 1) := by decide +kernel
theorem dX11_init_71 : decode cX11_init 71 = .ok (.dup, 1) := by decide +kernel
theorem dX11_init_72 : decode cX11_init 72 = .ok (.bipush 10, 2) := by decide +kernel
theorem dX11_init_74 : decode cX11_init 74 = .ok (.iconst (-1), 1) := by decide +kernel
theorem dX11_init_75 : decode cX11_init 75 = .ok (.iastore, 1) := by decide +kernel
theorem dX11_init_76 : decode cX11_init 76 = .ok (.dup, 1) := by decide +kernel
theorem dX11_init_77 : decode cX11_init 77 = .ok (.bipush 11, 2) := by decide +kernel
theorem dX11_init_79 : decode cX11_init 79 = .ok (.iconst (-1), 1) := by decide +kernel
theorem dX11_init_80 : decode cX11_init 80 = .ok (.iastore, 1) := by decide +kernel
theorem dX11_init_81 : decode cX11_init 81 = .ok (.putfield 19, 3) := by decide +kernel
theorem dX11_init_84 : decode cX11_init 84 = .ok (.aload_n 0, 1) := by decide +kernel
theorem dX11_init_85 : decode cX11_init 85 = .ok (.sipush 600, 3) := by decide +kernel
theorem dX11_init_88 : decode cX11_init 88 = .ok (.newarray .int, 2) := by decide +kernel
theorem dX11_init_90 : decode cX11_init 90 = .ok (.putfield 22, 3) := by decide +kernel
theorem dX11_init_93 : decode cX11_init 93 = .ok (.aload_n 0, 1) := by decide +kernel
theorem dX11_init_94 : decode cX11_init 94 = .ok (.sipush 600, 3) := by decide +kernel
theorem dX11_init_97 : decode cX11_init 97 = .ok (.newarray .double, 2) := by decide +kernel
theorem dX11_init_99 : decode cX11_init 99 = .ok (.putfield 25, 3) := by decide +kernel
theorem dX11_init_102 : decode cX11_init 102 = .ok (.aload_n 0, 1) := by decide +kernel
theorem dX11_init_103 : decode cX11_init 103 = .ok (.bipush 6, 2) := by decide +kernel
theorem dX11_init_105 : decode cX11_init 105 = .ok (.newarray .int, 2) := by decide +kernel
theorem dX11_init_107 : decode cX11_init 107 = .ok (.dup, 1) := by decide +kernel
theorem dX11_init_108 : decode cX11_init 108 = .ok (.iconst 0, 1) := by decide +kernel
theorem dX11_init_109 : decode cX11_init 109 = .ok (.iconst (-1), 1) := by decide +kernel
theorem dX11_init_110 : decode cX11_init 110 = .ok (.iastore, 1) := by decide +kernel
theorem dX11_init_111 : decode cX11_init 111 = .ok (.dup, 1) := by decide +kernel
theorem dX11_init_112 : decode cX11_init 112 = .ok (.iconst 1, 1) := by decide +kernel
theorem dX11_init_113 : decode cX11_init 113 = .ok (.iconst (-1), 1) := by decide +kernel
theorem dX11_init_114 : decode cX11_init 114 = .ok (.iastore, 1) := by decide +kernel
theorem dX11_init_115 : decode cX11_init 115 = .ok (.dup, 1) := by decide +kernel
theorem dX11_init_116 : decode cX11_init 116 = .ok (.iconst 2, 1) := by decide +kernel
theorem dX11_init_117 : decode cX11_init 117 = .ok (.iconst (-1), 1) := by decide +kernel
theorem dX11_init_118 : decode cX11_init 118 = .ok (.iastore, 1) := by decide +kernel
theorem dX11_init_119 : decode cX11_init 119 = .ok (.dup, 1) := by decide +kernel
theorem dX11_init_120 : decode cX11_init 120 = .ok (.iconst 3, 1) := by decide +kernel
theorem dX11_init_121 : decode cX11_init 121 = .ok (.iconst (-1), 1) := by decide +kernel
theorem dX11_init_122 : decode cX11_init 122 = .ok (.iastore, 1) := by decide +kernel
theorem dX11_init_123 : decode cX11_init 123 = .ok (.dup, 1) := by decide +kernel
theorem dX11_init_124 : decode cX11_init 124 = .ok (.iconst 4, 1) := by decide +kernel
theorem dX11_init_125 : decode cX11_init 125 = .ok (.iconst (-1), 1) := by decide +kernel
theorem dX11_init_126 : decode cX11_init 126 = .ok (.iastore, 1) := by decide +kernel
theorem dX11_init_127 : decode cX11_init 127 = .ok (.dup, 1) := by decide +kernel
theorem dX11_init_128 : decode cX11_init 128 = .ok (.iconst 5, 1) := by decide +kernel
theorem dX11_init_129 : decode cX11_init 129 = .ok (.iconst (-1), 1) := by decide +kernel
theorem dX11_init_130 : decode cX11_init 130 = .ok (.iastore, 1) := by decide +kernel
theorem dX11_init_131 : decode cX11_init 131 = .ok (.putfield 28, 3) := by decide +kernel
theorem dX11_init_134 : decode cX11_init 134 = .ok (.aload_n 0, 1) := by decide +kernel
theorem dX11_init_135 : decode cX11_init 135 = .ok (.iconst 3, 1) := by decide +kernel
theorem dX11_init_136 : decode cX11_init 136 = .ok (.newarray .int, 2) := by decide +kernel
theorem dX11_init_138 : decode cX11_init 138 = .ok (.dup, 1) := by decide +kernel
theorem dX11_init_139 : decode cX11_init 139 = .ok (.iconst 0, 1) := by decide +kernel
theorem dX11_init_140 : decode cX11_init 140 = .ok (.iconst (-1), 1) := by decide +kernel
theorem dX11_init_141 : decode cX11_init 141 = .ok (.iastore, 1) := by decide +kernel
theorem dX11_init_142 : decode cX11_init 142 = .ok (.dup, 1) := by decide +kernel
theorem dX11_init_143 : decode cX11_init 143 = .ok (.iconst 1, 1) := by decide +kernel
theorem dX11_init_144 : decode cX11_init 144 = .ok (.iconst (-1), 1) := by decide +kernel
theorem dX11_init_145 : decode cX11_init 145 = .ok (.iastore, 1) := by decide +kernel
theorem dX11_init_146 : decode cX11_init 146 = .ok (.dup, 1) := by decide +kernel
theorem dX11_init_147 : decode cX11_init 147 = .ok (.iconst 2, 1) := by decide +kernel
theorem dX11_init_148 : decode cX11_init 148 = .ok (.iconst (-1), 1) := by decide +kernel
theorem dX11_init_149 : decode cX11_init 149 = .ok (.iastore, 1) := by decide +kernel
theorem dX11_init_150 : decode cX11_init 150 = .ok (.putfield 31, 3) := by decide +kernel
theorem dX11_init_153 : decode cX11_init 153 = .ok (.aload_n 0, 1) := by decide +kernel
theorem dX11_init_154 : decode cX11_init 154 = .ok (.bipush 9, 2) := by decide +kernel
theorem dX11_init_156 : decode cX11_init 156 = .ok (.newarray .int, 2) := by decide +kernel
theorem dX11_init_158 : decode cX11_init 158 = .ok (.dup, 1) := by decide +kernel
theorem dX11_init_159 : decode cX11_init 159 = .ok (.iconst 0, 1) := by decide +kernel
theorem dX11_init_160 : decode cX11_init 160 = .ok (.iconst (-1), 1) := by decide +kernel
theorem dX11_init_161 : decode cX11_init 161 = .ok (.iastore, 1) := by decide +kernel
theorem dX11_init_162 : decode cX11_init 162 = .ok (.dup, 1) := by decide +kernel
theorem dX11_init_163 : decode cX11_init 163 = .ok (.iconst 1, 1) := by decide +kernel
theorem dX11_init_164 : decode cX11_init 164 = .ok (.iconst (-1), 1) := by decide +kernel
theorem dX11_init_165 : decode cX11_init 165 = .ok (.iastore, 1) := by decide +kernel
theorem dX11_init_166 : decode cX11_init 166 = .ok (.dup, 1) := by decide +kernel
theorem dX11_init_167 : decode cX11_init 167 = .ok (.iconst 2, 1) := by decide +kernel
theorem dX11_init_168 : decode cX11_init 168 = .ok (.iconst (-1), 1) := by decide +kernel
theorem dX11_init_169 : decode cX11_init 169 = .ok (.iastore, 1) := by decide +kernel
theorem dX11_init_170 : decode cX11_init 170 = .ok (.dup, 1) := by decide +kernel
theorem dX11_init_171 : decode cX11_init 171 = .ok (.iconst 3, 1) := by decide +kernel
theorem dX11_init_172 : decode cX11_init 172 = .ok (.iconst (-1), 1) := by decide +kernel
theorem dX11_init_173 : decode cX11_init 173 = .ok (.iastore, 1) := by decide +kernel
theorem dX11_init_174 : decode cX11_init 174 = .ok (.dup, 1) := by decide +kernel
theorem dX11_init_175 : decode cX11_init 175 = .ok (.iconst 4, 1) := by decide +kernel
theorem dX11_init_176 : decode cX11_init 176 = .ok (.iconst (-1), 1) := by decide +kernel
theorem dX11_init_177 : decode cX11_init 177 = .ok (.iastore, 1) := by decide +kernel
theorem dX11_init_178 : decode cX11_init 178 = .ok (.dup, 1) := by decide +kernel
theorem dX11_init_179 : decode cX11_init 179 = .ok (.iconst 5, 1) := by decide +kernel
theorem dX11_init_180 : decode cX11_init 180 = .ok (.iconst (-1), 1) := by decide +kernel
theorem dX11_init_181 : decode cX11_init 181 = .ok (.iastore, 1) := by decide +kernel
theorem dX11_init_182 : decode cX11_init 182 = .ok (.dup, 1) := by decide +kernel
theorem dX11_init_183 : decode cX11_init 183 = .ok (.bipush 6, 2) := by decide +kernel
theorem dX11_init_185 : decode cX11_init 185 = .ok (.iconst (-1), 1) := by decide +kernel
theorem dX11_init_186 : decode cX11_init 186 = .ok (.iastore, 1) := by decide +kernel
theorem dX11_init_187 : decode cX11_init 187 = .ok (.dup, 1) := by decide +kernel
theorem dX11_init_188 : decode cX11_init 188 = .ok (.bipush 7, 2) := by decide +kernel
theorem dX11_init_190 : decode cX11_init 190 = .ok (.iconst (-1), 1) := by decide +kernel
theorem dX11_init_191 : decode cX11_init 191 = .ok (.iastore, 1) := by decide +kernel
theorem dX11_init_192 : decode cX11_init 192 = .ok (.dup, 1) := by decide +kernel
theorem dX11_init_193 : decode cX11_init 193 = .ok (.bipush 8, 2) := by decide +kernel
theorem dX11_init_195 : decode cX11_init 195 = .ok (.iconst (-1), 1) := by decide +kernel
theorem dX11_init_196 : decode cX11_init 196 = .ok (.iastore, 1) := by decide +kernel
theorem dX11_init_197 : decode cX11_init 197 = .ok (.putfield 34, 3) := by decide +kernel
theorem dX11_init_200 : decode cX11_init 200 = .ok (.aload_n 0, 1) := by decide +kernel
theorem dX11_init_201 : decode cX11_init 201 = .ok (.iconst 4, 1) := by decide +kernel
theorem dX11_init_202 : decode cX11_init 202 = .ok (.newarray .boolean, 2) := by decide +kernel
theorem dX11_init_204 : decode cX11_init 204 = .ok (.putfield 37, 3) := by decide +kernel
theorem dX11_init_207 : decode cX11_init 207 = .ok (.aload_n 0, 1) := by decide +kernel
theorem dX11_init_208 : decode cX11_init 208 = .ok (.iconst 4, 1) := by decide +kernel
theorem dX11_init_209 : decode cX11_init 209 = .ok (.newarray .int, 2) := by decide +kernel
theorem dX11_init_211 : decode cX11_init 211 = .ok (.putfield 41, 3) := by decide +kernel
theorem dX11_init_214 : decode cX11_init 214 = .ok (.aload_n 0, 1) := by decide +kernel
theorem dX11_init_215 : decode cX11_init 215 = .ok (.iconst 4, 1) := by decide +kernel
theorem dX11_init_216 : decode cX11_init 216 = .ok (.newarray .int, 2) := by decide +kernel
theorem dX11_init_218 : decode cX11_init 218 = .ok (.putfield 44, 3) := by decide +kernel
theorem dX11_init_221 : decode cX11_init 221 = .ok (.aload_n 0, 1) := by decide +kernel
theorem dX11_init_222 : decode cX11_init 222 = .ok (.iconst 4, 1) := by decide +kernel
theorem dX11_init_223 : decode cX11_init 223 = .ok (.newarray .int, 2) := by decide +kernel
theorem dX11_init_225 : decode cX11_init 225 = .ok (.putfield 47, 3) := by decide +kernel
theorem dX11_init_228 : decode cX11_init 228 = .ok (.aload_n 0, 1) := by decide +kernel
theorem dX11_init_229 : decode cX11_init 229 = .ok (.iconst 4, 1) := by decide +kernel
theorem dX11_init_230 : decode cX11_init 230 = .ok (.newarray .double, 2) := by decide +kernel
theorem dX11_init_232 : decode cX11_init 232 = .ok (.putfield 50, 3) := by decide +kernel
theorem dX11_init_235 : decode cX11_init 235 = .ok (.aload_n 0, 1) := by decide +kernel
theorem dX11_init_236 : decode cX11_init 236 = .ok (.iconst 4, 1) := by decide +kernel
theorem dX11_init_237 : decode cX11_init 237 = .ok (.newarray .double, 2) := by decide +kernel
theorem dX11_init_239 : decode cX11_init 239 = .ok (.putfield 53, 3) := by decide +kernel
theorem dX11_init_242 : decode cX11_init 242 = .ok (.aload_n 0, 1) := by decide +kernel
theorem dX11_init_243 : decode cX11_init 243 = .ok (.iconst 4, 1) := by decide +kernel
theorem dX11_init_244 : decode cX11_init 244 = .ok (.newarray .long, 2) := by decide +kernel
theorem dX11_init_246 : decode cX11_init 246 = .ok (.putfield 56, 3) := by decide +kernel
theorem dX11_init_249 : decode cX11_init 249 = .ok (.aload_n 0, 1) := by decide +kernel
theorem dX11_init_250 : decode cX11_init 250 = .ok (.bipush 8, 2) := by decide +kernel
theorem dX11_init_252 : decode cX11_init 252 = .ok (.newarray .double, 2) := by decide +kernel
theorem dX11_init_254 : decode cX11_init 254 = .ok (.putfield 60, 3) := by decide +kernel
theorem dX11_init_257 : decode cX11_init 257 = .ok (.return_, 1) := by decide +kernel
theorem dX11_in_0 : decode cX11_in 0 = .ok (.iload_n 0, 1) := by decide +kernel
theorem dX11_in_1 : decode cX11_in 1 = .ok (.iload_n 1, 1) := by decide +kernel
theorem dX11_in_2 : decode cX11_in 2 = .ok (.if_icmp .lt 12, 3) := by decide +kernel
theorem dX11_in_5 : decode cX11_in 5 = .ok (.iload_n 0, 1) := by decide +kernel
theorem dX11_in_6 : decode cX11_in 6 = .ok (.iload_n 2, 1) := by decide +kernel
theorem dX11_in_7 : decode cX11_in 7 = .ok (.if_icmp .gt 7, 3) := by decide +kernel
theorem dX11_in_10 : decode cX11_in 10 = .ok (.iconst 1, 1) := by decide +kernel
theorem dX11_in_11 : decode cX11_in 11 = .ok (.goto 4, 3) := by decide +kernel
theorem dX11_in_14 : decode cX11_in 14 = .ok (.iconst 0, 1) := by decide +kernel
theorem dX11_in_15 : decode cX11_in 15 = .ok (.ireturn, 1) := by decide +kernel
theorem dX11_fails_0 : decode cX11_fails 0 = .ok (.bipush (-10), 2) := by decide +kernel
theorem dX11_fails_2 : decode cX11_fails 2 = .ok (.iload_n 0, 1) := by decide +kernel
theorem dX11_fails_3 : decode cX11_fails 3 = .ok (.isub, 1) := by decide +kernel
theorem dX11_fails_4 : decode cX11_fails 4 = .ok (.ireturn, 1) := by decide +kernel
theorem dX11_isFine_0 : decode cX11_isFine 0 = .ok (.iload_n 0, 1) := by decide +kernel
theorem dX11_isFine_1 : decode cX11_isFine 1 = .ok (.ifCond .eq 23, 3) := by decide +kernel
theorem dX11_isFine_4 : decode cX11_isFine 4 = .ok (.lload_n 1, 1) := by decide +kernel
theorem dX11_isFine_5 : decode cX11_isFine 5 = .ok (.ldc2_w 63, 3) := by decide +kernel
theorem dX11_isFine_8 : decode cX11_isFine 8 = .ok (.land, 1) := by decide +kernel
theorem dX11_isFine_9 : decode cX11_isFine 9 = .ok (.ldc2_w 65, 3) := by decide +kernel
theorem dX11_isFine_12 : decode cX11_isFine 12 = .ok (.lcmp, 1) := by decide +kernel
theorem dX11_isFine_13 : decode cX11_isFine 13 = .ok (.ifCond .ge 7, 3) := by decide +kernel
theorem dX11_isFine_16 : decode cX11_isFine 16 = .ok (.iconst 1, 1) := by decide +kernel
theorem dX11_isFine_17 : decode cX11_isFine 17 = .ok (.goto 22, 3) := by decide +kernel
theorem dX11_isFine_20 : decode cX11_isFine 20 = .ok (.iconst 0, 1) := by decide +kernel
theorem dX11_isFine_21 : decode cX11_isFine 21 = .ok (.goto 18, 3) := by decide +kernel
theorem dX11_isFine_24 : decode cX11_isFine 24 = .ok (.lload_n 1, 1) := by decide +kernel
theorem dX11_isFine_25 : decode cX11_isFine 25 = .ok (.l2i, 1) := by decide +kernel
theorem dX11_isFine_26 : decode cX11_isFine 26 = .ok (.ldc 67, 2) := by decide +kernel
theorem dX11_isFine_28 : decode cX11_isFine 28 = .ok (.iand, 1) := by decide +kernel
theorem dX11_isFine_29 : decode cX11_isFine 29 = .ok (.ldc 68, 2) := by decide +kernel
theorem dX11_isFine_31 : decode cX11_isFine 31 = .ok (.if_icmp .ge 7, 3) := by decide +kernel
theorem dX11_isFine_34 : decode cX11_isFine 34 = .ok (.iconst 1, 1) := by decide +kernel
theorem dX11_isFine_35 : decode cX11_isFine 35 = .ok (.goto 4, 3) := by decide +kernel
theorem dX11_isFine_38 : decode cX11_isFine 38 = .ok (.iconst 0, 1) := by decide +kernel
theorem dX11_isFine_39 : decode cX11_isFine 39 = .ok (.ireturn, 1) := by decide +kernel
theorem dX11_number_0 : decode cX11_number 0 = .ok (.iload_n 0, 1) := by decide +kernel
theorem dX11_number_1 : decode cX11_number 1 = .ok (.ifCond .eq 10, 3) := by decide +kernel
theorem dX11_number_4 : decode cX11_number 4 = .ok (.lload_n 1, 1) := by decide +kernel
theorem dX11_number_5 : decode cX11_number 5 = .ok (.invokestatic 69, 3) := by decide +kernel
theorem dX11_number_8 : decode cX11_number 8 = .ok (.goto 9, 3) := by decide +kernel
theorem dX11_number_11 : decode cX11_number 11 = .ok (.lload_n 1, 1) := by decide +kernel
theorem dX11_number_12 : decode cX11_number 12 = .ok (.l2i, 1) := by decide +kernel
theorem dX11_number_13 : decode cX11_number 13 = .ok (.invokestatic 75, 3) := by decide +kernel
theorem dX11_number_16 : decode cX11_number 16 = .ok (.f2d, 1) := by decide +kernel
theorem dX11_number_17 : decode cX11_number 17 = .ok (.dreturn, 1) := by decide +kernel
set_option maxRecDepth 20000 in
theorem ggX11_bitsOf_Jxe99ae_doubleToLongBits_ccdee : GoodIn wsX11_bitsOf wsJxe99ae_doubleToLongBits_ccdee := goodIn_r _ [4, 5, 6, 7, 8, 9, 10, 11, 3, 12] (by decide +kernel) (by decide +kernel)
set_option maxRecDepth 20000 in
theorem gX11_bitsOf_Jxe99ae_doubleToLongBits_ccdee : GoodIn wsX11_bitsOf (va_wsS RX11 79 yJxe99ae_doubleToLongBits_ccdee wsJxe99ae_doubleToLongBits_ccdee) := goodIn_app (goodIn_of _ (by decide +kernel)) ggX11_bitsOf_Jxe99ae_doubleToLongBits_ccdee
set_option maxRecDepth 20000 in
theorem ggX11_bitsOf_Jxf58ca_floatToIntBits_5c35a : GoodIn wsX11_bitsOf wsJxf58ca_floatToIntBits_5c35a := goodIn_r _ [16, 17, 18, 19, 20, 21, 22, 23, 15, 24] (by decide +kernel) (by decide +kernel)
set_option maxRecDepth 20000 in
theorem gX11_bitsOf_Jxf58ca_floatToIntBits_5c35a : GoodIn wsX11_bitsOf (va_wsS RX11 83 yJxf58ca_floatToIntBits_5c35a wsJxf58ca_floatToIntBits_5c35a) := goodIn_app (goodIn_of _ (by decide +kernel)) ggX11_bitsOf_Jxf58ca_floatToIntBits_5c35a
theorem dX11_bitsOf_0 : decode cX11_bitsOf 0 = .ok (.iload_n 0, 1) := by decide +kernel
theorem dX11_bitsOf_1 : decode cX11_bitsOf 1 = .ok (.ifCond .eq 10, 3) := by decide +kernel
theorem dX11_bitsOf_4 : decode cX11_bitsOf 4 = .ok (.dload_n 1, 1) := by decide +kernel
theorem dX11_bitsOf_5 : decode cX11_bitsOf 5 = .ok (.invokestatic 79, 3) := by decide +kernel
theorem dX11_bitsOf_8 : decode cX11_bitsOf 8 = .ok (.goto 9, 3) := by decide +kernel
theorem dX11_bitsOf_11 : decode cX11_bitsOf 11 = .ok (.dload_n 1, 1) := by decide +kernel
theorem dX11_bitsOf_12 : decode cX11_bitsOf 12 = .ok (.d2f, 1) := by decide +kernel
theorem dX11_bitsOf_13 : decode cX11_bitsOf 13 = .ok (.invokestatic 83, 3) := by decide +kernel
theorem dX11_bitsOf_16 : decode cX11_bitsOf 16 = .ok (.i2l, 1) := by decide +kernel
theorem dX11_bitsOf_17 : decode cX11_bitsOf 17 = .ok (.lreturn, 1) := by decide +kernel
theorem dX11_held_0 : decode cX11_held 0 = .ok (.dload_n 0, 1) := by decide +kernel
theorem dX11_held_1 : decode cX11_held 1 = .ok (.d2f, 1) := by decide +kernel
theorem dX11_held_2 : decode cX11_held 2 = .ok (.fstore_n 2, 1) := by decide +kernel
theorem dX11_held_3 : decode cX11_held 3 = .ok (.fload_n 2, 1) := by decide +kernel
theorem dX11_held_4 : decode cX11_held 4 = .ok (.ldc 87, 2) := by decide +kernel
theorem dX11_held_6 : decode cX11_held 6 = .ok (.fcmp .l, 1) := by decide +kernel
theorem dX11_held_7 : decode cX11_held 7 = .ok (.ifCond .le 9, 3) := by decide +kernel
theorem dX11_held_10 : decode cX11_held 10 = .ok (.ldc2_w 88, 3) := by decide +kernel
theorem dX11_held_13 : decode cX11_held 13 = .ok (.goto 18, 3) := by decide +kernel
theorem dX11_held_16 : decode cX11_held 16 = .ok (.fload_n 2, 1) := by decide +kernel
theorem dX11_held_17 : decode cX11_held 17 = .ok (.ldc 90, 2) := by decide +kernel
theorem dX11_held_19 : decode cX11_held 19 = .ok (.fcmp .g, 1) := by decide +kernel
theorem dX11_held_20 : decode cX11_held 20 = .ok (.ifCond .ge 9, 3) := by decide +kernel
theorem dX11_held_23 : decode cX11_held 23 = .ok (.ldc2_w 91, 3) := by decide +kernel
theorem dX11_held_26 : decode cX11_held 26 = .ok (.goto 5, 3) := by decide +kernel
theorem dX11_held_29 : decode cX11_held 29 = .ok (.fload_n 2, 1) := by decide +kernel
theorem dX11_held_30 : decode cX11_held 30 = .ok (.f2d, 1) := by decide +kernel
theorem dX11_held_31 : decode cX11_held 31 = .ok (.dreturn, 1) := by decide +kernel
theorem dX11_slotOf_0 : decode cX11_slotOf 0 = .ok (.iload_n 0, 1) := by decide +kernel
theorem dX11_slotOf_1 : decode cX11_slotOf 1 = .ok (.ifCond .eq 10, 3) := by decide +kernel
theorem dX11_slotOf_4 : decode cX11_slotOf 4 = .ok (.bipush 6, 2) := by decide +kernel
theorem dX11_slotOf_6 : decode cX11_slotOf 6 = .ok (.iload_n 1, 1) := by decide +kernel
theorem dX11_slotOf_7 : decode cX11_slotOf 7 = .ok (.iadd, 1) := by decide +kernel
theorem dX11_slotOf_8 : decode cX11_slotOf 8 = .ok (.goto 4, 3) := by decide +kernel
theorem dX11_slotOf_11 : decode cX11_slotOf 11 = .ok (.iload_n 1, 1) := by decide +kernel
theorem dX11_slotOf_12 : decode cX11_slotOf 12 = .ok (.ireturn, 1) := by decide +kernel
set_option maxRecDepth 20000 in
theorem ggX11_row_X11_in : GoodIn wsX11_row wsX11_in := goodIn_r _ [8] (by decide +kernel) (by decide +kernel)
set_option maxRecDepth 20000 in
theorem gX11_row_X11_in : GoodIn wsX11_row (va_wsS RX11 93 yX11_in wsX11_in) := goodIn_app (goodIn_of _ (by decide +kernel)) ggX11_row_X11_in
set_option maxRecDepth 20000 in
theorem ggX11_row_X11_slotOf : GoodIn wsX11_row wsX11_slotOf := goodIn_r _ [11] (by decide +kernel) (by decide +kernel)
set_option maxRecDepth 20000 in
theorem gX11_row_X11_slotOf : GoodIn wsX11_row (va_wsS RX11 101 yX11_slotOf wsX11_slotOf) := goodIn_app (goodIn_of _ (by decide +kernel)) ggX11_row_X11_slotOf
theorem dX11_row_0 : decode cX11_row 0 = .ok (.iload_n 2, 1) := by decide +kernel
theorem dX11_row_1 : decode cX11_row 1 = .ok (.iconst 0, 1) := by decide +kernel
theorem dX11_row_2 : decode cX11_row 2 = .ok (.iconst 5, 1) := by decide +kernel
theorem dX11_row_3 : decode cX11_row 3 = .ok (.invokestatic 93, 3) := by decide +kernel
theorem dX11_row_6 : decode cX11_row 6 = .ok (.ifCond .eq 13, 3) := by decide +kernel
theorem dX11_row_9 : decode cX11_row 9 = .ok (.iload_n 3, 1) := by decide +kernel
theorem dX11_row_10 : decode cX11_row 10 = .ok (.iconst 0, 1) := by decide +kernel
theorem dX11_row_11 : decode cX11_row 11 = .ok (.bipush 16, 2) := by decide +kernel
theorem dX11_row_13 : decode cX11_row 13 = .ok (.invokestatic 93, 3) := by decide +kernel
theorem dX11_row_16 : decode cX11_row 16 = .ok (.ifCond .ne 5, 3) := by decide +kernel
theorem dX11_row_19 : decode cX11_row 19 = .ok (.iconst (-1), 1) := by decide +kernel
theorem dX11_row_20 : decode cX11_row 20 = .ok (.ireturn, 1) := by decide +kernel
theorem dX11_row_21 : decode cX11_row 21 = .ok (.aload_n 0, 1) := by decide +kernel
theorem dX11_row_22 : decode cX11_row 22 = .ok (.getfield 9, 3) := by decide +kernel
theorem dX11_row_25 : decode cX11_row 25 = .ok (.aload_n 0, 1) := by decide +kernel
theorem dX11_row_26 : decode cX11_row 26 = .ok (.getfield 97, 3) := by decide +kernel
theorem dX11_row_29 : decode cX11_row 29 = .ok (.iload_n 3, 1) := by decide +kernel
theorem dX11_row_30 : decode cX11_row 30 = .ok (.iastore, 1) := by decide +kernel
theorem dX11_row_31 : decode cX11_row 31 = .ok (.iconst 0, 1) := by decide +kernel
theorem dX11_row_32 : decode cX11_row 32 = .ok (.istore 4, 2) := by decide +kernel
theorem dX11_row_34 : decode cX11_row 34 = .ok (.iload 4, 2) := by decide +kernel
theorem dX11_row_36 : decode cX11_row 36 = .ok (.bipush 16, 2) := by decide +kernel
theorem dX11_row_38 : decode cX11_row 38 = .ok (.if_icmp .ge 25, 3) := by decide +kernel
theorem dX11_row_41 : decode cX11_row 41 = .ok (.aload_n 0, 1) := by decide +kernel
theorem dX11_row_42 : decode cX11_row 42 = .ok (.getfield 15, 3) := by decide +kernel
theorem dX11_row_45 : decode cX11_row 45 = .ok (.bipush 16, 2) := by decide +kernel
theorem dX11_row_47 : decode cX11_row 47 = .ok (.aload_n 0, 1) := by decide +kernel
theorem dX11_row_48 : decode cX11_row 48 = .ok (.getfield 97, 3) := by decide +kernel
theorem dX11_row_51 : decode cX11_row 51 = .ok (.imul, 1) := by decide +kernel
theorem dX11_row_52 : decode cX11_row 52 = .ok (.iload 4, 2) := by decide +kernel
theorem dX11_row_54 : decode cX11_row 54 = .ok (.iadd, 1) := by decide +kernel
theorem dX11_row_55 : decode cX11_row 55 = .ok (.dconst 0, 1) := by decide +kernel
theorem dX11_row_56 : decode cX11_row 56 = .ok (.dastore, 1) := by decide +kernel
theorem dX11_row_57 : decode cX11_row 57 = .ok (.iinc 4 1, 3) := by decide +kernel
theorem dX11_row_60 : decode cX11_row 60 = .ok (.goto (-26), 3) := by decide +kernel
theorem dX11_row_63 : decode cX11_row 63 = .ok (.aload_n 0, 1) := by decide +kernel
theorem dX11_row_64 : decode cX11_row 64 = .ok (.getfield 19, 3) := by decide +kernel
theorem dX11_row_67 : decode cX11_row 67 = .ok (.iload_n 1, 1) := by decide +kernel
theorem dX11_row_68 : decode cX11_row 68 = .ok (.iload_n 2, 1) := by decide +kernel
theorem dX11_row_69 : decode cX11_row 69 = .ok (.invokestatic 101, 3) := by decide +kernel
theorem dX11_row_72 : decode cX11_row 72 = .ok (.aload_n 0, 1) := by decide +kernel
theorem dX11_row_73 : decode cX11_row 73 = .ok (.getfield 97, 3) := by decide +kernel
theorem dX11_row_76 : decode cX11_row 76 = .ok (.iastore, 1) := by decide +kernel
theorem dX11_row_77 : decode cX11_row 77 = .ok (.aload_n 0, 1) := by decide +kernel
theorem dX11_row_78 : decode cX11_row 78 = .ok (.dup, 1) := by decide +kernel
theorem dX11_row_79 : decode cX11_row 79 = .ok (.getfield 97, 3) := by decide +kernel
theorem dX11_row_82 : decode cX11_row 82 = .ok (.iconst 1, 1) := by decide +kernel
theorem dX11_row_83 : decode cX11_row 83 = .ok (.iadd, 1) := by decide +kernel
theorem dX11_row_84 : decode cX11_row 84 = .ok (.putfield 97, 3) := by decide +kernel
theorem dX11_row_87 : decode cX11_row 87 = .ok (.iconst 1, 1) := by decide +kernel
