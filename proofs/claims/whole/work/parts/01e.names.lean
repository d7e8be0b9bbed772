theorem dX11_step_312 : decode cX11_step 312 = .ok (.dastore, 1) := by decide +kernel
theorem dX11_step_313 : decode cX11_step 313 = .ok (.aload_n 0, 1) := by decide +kernel
theorem dX11_step_314 : decode cX11_step 314 = .ok (.getfield 56, 3) := by decide +kernel
theorem dX11_step_317 : decode cX11_step 317 = .ok (.iload_n 1, 1) := by decide +kernel
theorem dX11_step_318 : decode cX11_step 318 = .ok (.dup2, 1) := by decide +kernel
theorem dX11_step_319 : decode cX11_step 319 = .ok (.laload, 1) := by decide +kernel
theorem dX11_step_320 : decode cX11_step 320 = .ok (.lconst 1, 1) := by decide +kernel
theorem dX11_step_321 : decode cX11_step 321 = .ok (.ladd, 1) := by decide +kernel
theorem dX11_step_322 : decode cX11_step 322 = .ok (.lastore, 1) := by decide +kernel
theorem dX11_step_323 : decode cX11_step 323 = .ok (.iconst 0, 1) := by decide +kernel
theorem dX11_step_324 : decode cX11_step 324 = .ok (.ireturn, 1) := by decide +kernel
set_option maxRecDepth 20000 in
theorem ggX11_play_X11_in : GoodIn wsX11_play wsX11_in := goodIn_r _ [6] (by decide +kernel) (by decide +kernel)
set_option maxRecDepth 20000 in
theorem gX11_play_X11_in : GoodIn wsX11_play (va_wsS RX11 93 yX11_in wsX11_in) := goodIn_app (goodIn_of _ (by decide +kernel)) ggX11_play_X11_in
set_option maxRecDepth 20000 in
theorem ggX11_play_X11_step : GoodIn wsX11_play wsX11_step := goodIn_r _ [10, 11, 12, 13, 14, 15, 16, 17, 18, 19, 20, 21, 22, 23, 24, 25, 26, 5, 27, 28, 29, 30, 3, 4, 6, 31, 32, 33, 34, 35, 36, 37, 38, 39, 40, 41, 42, 43, 44, 45, 46, 47, 48, 49, 50, 51, 52, 53, 54, 55, 56, 57, 58, 59, 60, 61, 62, 63, 64, 65, 66, 67, 68, 69, 70, 71] (by decide +kernel) (by decide +kernel)
set_option maxRecDepth 20000 in
theorem gX11_play_X11_step : GoodIn wsX11_play (wsV RX11 167 RX11 yX11_step wsX11_step) := goodIn_app (goodIn_of _ (by decide +kernel)) ggX11_play_X11_step
theorem dX11_play_0 : decode cX11_play 0 = .ok (.iload_n 1, 1) := by decide +kernel
theorem dX11_play_1 : decode cX11_play 1 = .ok (.iconst 0, 1) := by decide +kernel
theorem dX11_play_2 : decode cX11_play 2 = .ok (.iconst 3, 1) := by decide +kernel
theorem dX11_play_3 : decode cX11_play 3 = .ok (.invokestatic 93, 3) := by decide +kernel
theorem dX11_play_6 : decode cX11_play 6 = .ok (.ifCond .eq 22, 3) := by decide +kernel
theorem dX11_play_9 : decode cX11_play 9 = .ok (.aload_n 0, 1) := by decide +kernel
theorem dX11_play_10 : decode cX11_play 10 = .ok (.getfield 37, 3) := by decide +kernel
theorem dX11_play_13 : decode cX11_play 13 = .ok (.iload_n 1, 1) := by decide +kernel
theorem dX11_play_14 : decode cX11_play 14 = .ok (.baload, 1) := by decide +kernel
theorem dX11_play_15 : decode cX11_play 15 = .ok (.ifCond .eq 13, 3) := by decide +kernel
theorem dX11_play_18 : decode cX11_play 18 = .ok (.iload_n 2, 1) := by decide +kernel
theorem dX11_play_19 : decode cX11_play 19 = .ok (.iconst 0, 1) := by decide +kernel
theorem dX11_play_20 : decode cX11_play 20 = .ok (.bipush 64, 2) := by decide +kernel
theorem dX11_play_22 : decode cX11_play 22 = .ok (.invokestatic 93, 3) := by decide +kernel
theorem dX11_play_25 : decode cX11_play 25 = .ok (.ifCond .ne 5, 3) := by decide +kernel
theorem dX11_play_28 : decode cX11_play 28 = .ok (.iconst (-1), 1) := by decide +kernel
theorem dX11_play_29 : decode cX11_play 29 = .ok (.ireturn, 1) := by decide +kernel
theorem dX11_play_30 : decode cX11_play 30 = .ok (.aload_n 0, 1) := by decide +kernel
theorem dX11_play_31 : decode cX11_play 31 = .ok (.iconst 0, 1) := by decide +kernel
theorem dX11_play_32 : decode cX11_play 32 = .ok (.putfield 164, 3) := by decide +kernel
theorem dX11_play_35 : decode cX11_play 35 = .ok (.iconst 0, 1) := by decide +kernel
theorem dX11_play_36 : decode cX11_play 36 = .ok (.istore_n 3, 1) := by decide +kernel
theorem dX11_play_37 : decode cX11_play 37 = .ok (.iload_n 3, 1) := by decide +kernel
theorem dX11_play_38 : decode cX11_play 38 = .ok (.iload_n 2, 1) := by decide +kernel
theorem dX11_play_39 : decode cX11_play 39 = .ok (.if_icmp .ge 37, 3) := by decide +kernel
theorem dX11_play_42 : decode cX11_play 42 = .ok (.aload_n 0, 1) := by decide +kernel
theorem dX11_play_43 : decode cX11_play 43 = .ok (.getfield 164, 3) := by decide +kernel
theorem dX11_play_46 : decode cX11_play 46 = .ok (.ifCond .ne 30, 3) := by decide +kernel
theorem dX11_play_49 : decode cX11_play 49 = .ok (.aload_n 0, 1) := by decide +kernel
theorem dX11_play_50 : decode cX11_play 50 = .ok (.aload_n 0, 1) := by decide +kernel
theorem dX11_play_51 : decode cX11_play 51 = .ok (.iload_n 1, 1) := by decide +kernel
theorem dX11_play_52 : decode cX11_play 52 = .ok (.invokevirtual 167, 3) := by decide +kernel
theorem dX11_play_55 : decode cX11_play 55 = .ok (.putfield 164, 3) := by decide +kernel
theorem dX11_play_58 : decode cX11_play 58 = .ok (.aload_n 0, 1) := by decide +kernel
theorem dX11_play_59 : decode cX11_play 59 = .ok (.getfield 164, 3) := by decide +kernel
theorem dX11_play_62 : decode cX11_play 62 = .ok (.ifCond .ne 9, 3) := by decide +kernel
theorem dX11_play_65 : decode cX11_play 65 = .ok (.iload_n 3, 1) := by decide +kernel
theorem dX11_play_66 : decode cX11_play 66 = .ok (.iconst 1, 1) := by decide +kernel
theorem dX11_play_67 : decode cX11_play 67 = .ok (.iadd, 1) := by decide +kernel
theorem dX11_play_68 : decode cX11_play 68 = .ok (.goto 4, 3) := by decide +kernel
theorem dX11_play_71 : decode cX11_play 71 = .ok (.iload_n 3, 1) := by decide +kernel
theorem dX11_play_72 : decode cX11_play 72 = .ok (.istore_n 3, 1) := by decide +kernel
theorem dX11_play_73 : decode cX11_play 73 = .ok (.goto (-36), 3) := by decide +kernel
theorem dX11_play_76 : decode cX11_play 76 = .ok (.iload_n 3, 1) := by decide +kernel
theorem dX11_play_77 : decode cX11_play 77 = .ok (.ireturn, 1) := by decide +kernel
set_option maxRecDepth 20000 in
theorem ggX11_failed_X11_fails : GoodIn wsX11_failed wsX11_fails := goodIn_r _ [5] (by decide +kernel) (by decide +kernel)
set_option maxRecDepth 20000 in
theorem gX11_failed_X11_fails : GoodIn wsX11_failed (va_wsS RX11 113 yX11_fails wsX11_fails) := goodIn_app (goodIn_of _ (by decide +kernel)) ggX11_failed_X11_fails
theorem dX11_failed_0 : decode cX11_failed 0 = .ok (.aload_n 0, 1) := by decide +kernel
theorem dX11_failed_1 : decode cX11_failed 1 = .ok (.getfield 164, 3) := by decide +kernel
theorem dX11_failed_4 : decode cX11_failed 4 = .ok (.ifCond .ne 7, 3) := by decide +kernel
theorem dX11_failed_7 : decode cX11_failed 7 = .ok (.iconst 0, 1) := by decide +kernel
theorem dX11_failed_8 : decode cX11_failed 8 = .ok (.goto 10, 3) := by decide +kernel
theorem dX11_failed_11 : decode cX11_failed 11 = .ok (.aload_n 0, 1) := by decide +kernel
theorem dX11_failed_12 : decode cX11_failed 12 = .ok (.getfield 164, 3) := by decide +kernel
theorem dX11_failed_15 : decode cX11_failed 15 = .ok (.invokestatic 113, 3) := by decide +kernel
theorem dX11_failed_18 : decode cX11_failed 18 = .ok (.ireturn, 1) := by decide +kernel
set_option maxRecDepth 20000 in
theorem ggX11_mix_X11_in : GoodIn wsX11_mix wsX11_in := goodIn_r _ [7] (by decide +kernel) (by decide +kernel)
set_option maxRecDepth 20000 in
theorem gX11_mix_X11_in : GoodIn wsX11_mix (va_wsS RX11 93 yX11_in wsX11_in) := goodIn_app (goodIn_of _ (by decide +kernel)) ggX11_mix_X11_in
set_option maxRecDepth 20000 in
theorem ggX11_mix_X11_bitsOf : GoodIn wsX11_mix wsX11_bitsOf := goodIn_r _ [10, 11, 12, 13, 14, 15, 16, 17, 18, 19, 20, 21, 22, 23, 24, 25, 26, 27, 28, 29, 30, 31, 32, 33, 34] (by decide +kernel) (by decide +kernel)
set_option maxRecDepth 20000 in
theorem gX11_mix_X11_bitsOf : GoodIn wsX11_mix (va_wsS RX11 125 yX11_bitsOf wsX11_bitsOf) := goodIn_app (goodIn_of _ (by decide +kernel)) ggX11_mix_X11_bitsOf
theorem dX11_mix_0 : decode cX11_mix 0 = .ok (.iload_n 1, 1) := by decide +kernel
theorem dX11_mix_1 : decode cX11_mix 1 = .ok (.iconst 0, 1) := by decide +kernel
theorem dX11_mix_2 : decode cX11_mix 2 = .ok (.bipush 7, 2) := by decide +kernel
theorem dX11_mix_4 : decode cX11_mix 4 = .ok (.invokestatic 93, 3) := by decide +kernel
theorem dX11_mix_7 : decode cX11_mix 7 = .ok (.ifCond .eq 12, 3) := by decide +kernel
theorem dX11_mix_10 : decode cX11_mix 10 = .ok (.iload_n 2, 1) := by decide +kernel
theorem dX11_mix_11 : decode cX11_mix 11 = .ok (.iconst 0, 1) := by decide +kernel
theorem dX11_mix_12 : decode cX11_mix 12 = .ok (.iconst 3, 1) := by decide +kernel
theorem dX11_mix_13 : decode cX11_mix 13 = .ok (.invokestatic 93, 3) := by decide +kernel
theorem dX11_mix_16 : decode cX11_mix 16 = .ok (.ifCond .ne 5, 3) := by decide +kernel
theorem dX11_mix_19 : decode cX11_mix 19 = .ok (.iconst (-1), 1) := by decide +kernel
theorem dX11_mix_20 : decode cX11_mix 20 = .ok (.ireturn, 1) := by decide +kernel
theorem dX11_mix_21 : decode cX11_mix 21 = .ok (.aload_n 0, 1) := by decide +kernel
theorem dX11_mix_22 : decode cX11_mix 22 = .ok (.getfield 60, 3) := by decide +kernel
theorem dX11_mix_25 : decode cX11_mix 25 = .ok (.iload_n 1, 1) := by decide +kernel
theorem dX11_mix_26 : decode cX11_mix 26 = .ok (.daload, 1) := by decide +kernel
theorem dX11_mix_27 : decode cX11_mix 27 = .ok (.ldc2_w 170, 3) := by decide +kernel
theorem dX11_mix_30 : decode cX11_mix 30 = .ok (.dmul, 1) := by decide +kernel
theorem dX11_mix_31 : decode cX11_mix 31 = .ok (.dstore_n 3, 1) := by decide +kernel
theorem dX11_mix_32 : decode cX11_mix 32 = .ok (.dload_n 3, 1) := by decide +kernel
theorem dX11_mix_33 : decode cX11_mix 33 = .ok (.d2i, 1) := by decide +kernel
theorem dX11_mix_34 : decode cX11_mix 34 = .ok (.istore 5, 2) := by decide +kernel
theorem dX11_mix_36 : decode cX11_mix 36 = .ok (.aload_n 0, 1) := by decide +kernel
theorem dX11_mix_37 : decode cX11_mix 37 = .ok (.iload_n 2, 1) := by decide +kernel
theorem dX11_mix_38 : decode cX11_mix 38 = .ok (.ifCond .ne 16, 3) := by decide +kernel
theorem dX11_mix_41 : decode cX11_mix 41 = .ok (.iconst 0, 1) := by decide +kernel
theorem dX11_mix_42 : decode cX11_mix 42 = .ok (.aload_n 0, 1) := by decide +kernel
theorem dX11_mix_43 : decode cX11_mix 43 = .ok (.getfield 60, 3) := by decide +kernel
theorem dX11_mix_46 : decode cX11_mix 46 = .ok (.iload_n 1, 1) := by decide +kernel
theorem dX11_mix_47 : decode cX11_mix 47 = .ok (.daload, 1) := by decide +kernel
theorem dX11_mix_48 : decode cX11_mix 48 = .ok (.invokestatic 125, 3) := by decide +kernel
theorem dX11_mix_51 : decode cX11_mix 51 = .ok (.goto 33, 3) := by decide +kernel
theorem dX11_mix_54 : decode cX11_mix 54 = .ok (.iload_n 2, 1) := by decide +kernel
theorem dX11_mix_55 : decode cX11_mix 55 = .ok (.iconst 1, 1) := by decide +kernel
theorem dX11_mix_56 : decode cX11_mix 56 = .ok (.if_icmp .ne 9, 3) := by decide +kernel
theorem dX11_mix_59 : decode cX11_mix 59 = .ok (.iload 5, 2) := by decide +kernel
theorem dX11_mix_61 : decode cX11_mix 61 = .ok (.i2l, 1) := by decide +kernel
theorem dX11_mix_62 : decode cX11_mix 62 = .ok (.goto 22, 3) := by decide +kernel
theorem dX11_mix_65 : decode cX11_mix 65 = .ok (.iload_n 2, 1) := by decide +kernel
theorem dX11_mix_66 : decode cX11_mix 66 = .ok (.iconst 2, 1) := by decide +kernel
theorem dX11_mix_67 : decode cX11_mix 67 = .ok (.if_icmp .ne 10, 3) := by decide +kernel
theorem dX11_mix_70 : decode cX11_mix 70 = .ok (.iload 5, 2) := by decide +kernel
theorem dX11_mix_72 : decode cX11_mix 72 = .ok (.i2s, 1) := by decide +kernel
theorem dX11_mix_73 : decode cX11_mix 73 = .ok (.i2l, 1) := by decide +kernel
theorem dX11_mix_74 : decode cX11_mix 74 = .ok (.goto 10, 3) := by decide +kernel
theorem dX11_mix_77 : decode cX11_mix 77 = .ok (.aload_n 0, 1) := by decide +kernel
theorem dX11_mix_78 : decode cX11_mix 78 = .ok (.getfield 60, 3) := by decide +kernel
theorem dX11_mix_81 : decode cX11_mix 81 = .ok (.iload_n 1, 1) := by decide +kernel
theorem dX11_mix_82 : decode cX11_mix 82 = .ok (.daload, 1) := by decide +kernel
theorem dX11_mix_83 : decode cX11_mix 83 = .ok (.d2l, 1) := by decide +kernel
theorem dX11_mix_84 : decode cX11_mix 84 = .ok (.putfield 129, 3) := by decide +kernel
theorem dX11_mix_87 : decode cX11_mix 87 = .ok (.iconst 1, 1) := by decide +kernel
theorem dX11_mix_88 : decode cX11_mix 88 = .ok (.ireturn, 1) := by decide +kernel
theorem dX11_hush_0 : decode cX11_hush 0 = .ok (.iconst 0, 1) := by decide +kernel
theorem dX11_hush_1 : decode cX11_hush 1 = .ok (.istore_n 1, 1) := by decide +kernel
theorem dX11_hush_2 : decode cX11_hush 2 = .ok (.iload_n 1, 1) := by decide +kernel
theorem dX11_hush_3 : decode cX11_hush 3 = .ok (.bipush 8, 2) := by decide +kernel
theorem dX11_hush_5 : decode cX11_hush 5 = .ok (.if_icmp .ge 16, 3) := by decide +kernel
theorem dX11_hush_8 : decode cX11_hush 8 = .ok (.aload_n 0, 1) := by decide +kernel
theorem dX11_hush_9 : decode cX11_hush 9 = .ok (.getfield 60, 3) := by decide +kernel
theorem dX11_hush_12 : decode cX11_hush 12 = .ok (.iload_n 1, 1) := by decide +kernel
theorem dX11_hush_13 : decode cX11_hush 13 = .ok (.dconst 0, 1) := by decide +kernel
theorem dX11_hush_14 : decode cX11_hush 14 = .ok (.dastore, 1) := by decide +kernel
theorem dX11_hush_15 : decode cX11_hush 15 = .ok (.iinc 1 1, 3) := by decide +kernel
theorem dX11_hush_18 : decode cX11_hush 18 = .ok (.goto (-16), 3) := by decide +kernel
theorem dX11_hush_21 : decode cX11_hush 21 = .ok (.iconst 1, 1) := by decide +kernel
theorem dX11_hush_22 : decode cX11_hush 22 = .ok (.ireturn, 1) := by decide +kernel
set_option maxRecDepth 20000 in
theorem ggX11_at_X11_in : GoodIn wsX11_at wsX11_in := goodIn_r _ [8] (by decide +kernel) (by decide +kernel)
set_option maxRecDepth 20000 in
theorem gX11_at_X11_in : GoodIn wsX11_at (va_wsS RX11 93 yX11_in wsX11_in) := goodIn_app (goodIn_of _ (by decide +kernel)) ggX11_at_X11_in
set_option maxRecDepth 20000 in
theorem ggX11_at_X11_bitsOf : GoodIn wsX11_at wsX11_bitsOf := goodIn_r _ [11, 12, 13, 14, 15, 16, 17, 18, 19, 20, 21, 22, 23, 24, 25, 26, 27, 28, 29, 30, 31, 32, 33, 34, 35] (by decide +kernel) (by decide +kernel)
set_option maxRecDepth 20000 in
theorem gX11_at_X11_bitsOf : GoodIn wsX11_at (va_wsS RX11 125 yX11_bitsOf wsX11_bitsOf) := goodIn_app (goodIn_of _ (by decide +kernel)) ggX11_at_X11_bitsOf
theorem dX11_at_0 : decode cX11_at 0 = .ok (.iload_n 1, 1) := by decide +kernel
theorem dX11_at_1 : decode cX11_at 1 = .ok (.iconst 0, 1) := by decide +kernel
theorem dX11_at_2 : decode cX11_at 2 = .ok (.iconst 3, 1) := by decide +kernel
theorem dX11_at_3 : decode cX11_at 3 = .ok (.invokestatic 93, 3) := by decide +kernel
theorem dX11_at_6 : decode cX11_at 6 = .ok (.ifCond .eq 21, 3) := by decide +kernel
theorem dX11_at_9 : decode cX11_at 9 = .ok (.aload_n 0, 1) := by decide +kernel
theorem dX11_at_10 : decode cX11_at 10 = .ok (.getfield 37, 3) := by decide +kernel
theorem dX11_at_13 : decode cX11_at 13 = .ok (.iload_n 1, 1) := by decide +kernel
theorem dX11_at_14 : decode cX11_at 14 = .ok (.baload, 1) := by decide +kernel
theorem dX11_at_15 : decode cX11_at 15 = .ok (.ifCond .eq 12, 3) := by decide +kernel
theorem dX11_at_18 : decode cX11_at 18 = .ok (.iload_n 2, 1) := by decide +kernel
theorem dX11_at_19 : decode cX11_at 19 = .ok (.iconst 0, 1) := by decide +kernel
theorem dX11_at_20 : decode cX11_at 20 = .ok (.iconst 1, 1) := by decide +kernel
theorem dX11_at_21 : decode cX11_at 21 = .ok (.invokestatic 93, 3) := by decide +kernel
theorem dX11_at_24 : decode cX11_at 24 = .ok (.ifCond .ne 5, 3) := by decide +kernel
theorem dX11_at_27 : decode cX11_at 27 = .ok (.iconst (-1), 1) := by decide +kernel
theorem dX11_at_28 : decode cX11_at 28 = .ok (.ireturn, 1) := by decide +kernel
theorem dX11_at_29 : decode cX11_at 29 = .ok (.aload_n 0, 1) := by decide +kernel
theorem dX11_at_30 : decode cX11_at 30 = .ok (.iload_n 2, 1) := by decide +kernel
theorem dX11_at_31 : decode cX11_at 31 = .ok (.ifCond .ne 16, 3) := by decide +kernel
theorem dX11_at_34 : decode cX11_at 34 = .ok (.iconst 1, 1) := by decide +kernel
theorem dX11_at_35 : decode cX11_at 35 = .ok (.aload_n 0, 1) := by decide +kernel
theorem dX11_at_36 : decode cX11_at 36 = .ok (.getfield 53, 3) := by decide +kernel
theorem dX11_at_39 : decode cX11_at 39 = .ok (.iload_n 1, 1) := by decide +kernel
theorem dX11_at_40 : decode cX11_at 40 = .ok (.daload, 1) := by decide +kernel
theorem dX11_at_41 : decode cX11_at 41 = .ok (.invokestatic 125, 3) := by decide +kernel
theorem dX11_at_44 : decode cX11_at 44 = .ok (.goto 9, 3) := by decide +kernel
theorem dX11_at_47 : decode cX11_at 47 = .ok (.aload_n 0, 1) := by decide +kernel
theorem dX11_at_48 : decode cX11_at 48 = .ok (.getfield 56, 3) := by decide +kernel
theorem dX11_at_51 : decode cX11_at 51 = .ok (.iload_n 1, 1) := by decide +kernel
theorem dX11_at_52 : decode cX11_at 52 = .ok (.laload, 1) := by decide +kernel
theorem dX11_at_53 : decode cX11_at 53 = .ok (.putfield 129, 3) := by decide +kernel
theorem dX11_at_56 : decode cX11_at 56 = .ok (.iconst 1, 1) := by decide +kernel
theorem dX11_at_57 : decode cX11_at 57 = .ok (.ireturn, 1) := by decide +kernel
set_option maxRecDepth 20000 in
theorem ggX11_clock_X11_in : GoodIn wsX11_clock wsX11_in := goodIn_r _ [6] (by decide +kernel) (by decide +kernel)
set_option maxRecDepth 20000 in
theorem gX11_clock_X11_in : GoodIn wsX11_clock (va_wsS RX11 93 yX11_in wsX11_in) := goodIn_app (goodIn_of _ (by decide +kernel)) ggX11_clock_X11_in
set_option maxRecDepth 20000 in
theorem ggX11_clock_Jxf58ca_floatToIntBits_5c35a : GoodIn wsX11_clock wsJxf58ca_floatToIntBits_5c35a := goodIn_r _ [10, 11, 12, 13, 14, 15, 16, 17, 9, 18] (by decide +kernel) (by decide +kernel)
set_option maxRecDepth 20000 in
theorem gX11_clock_Jxf58ca_floatToIntBits_5c35a : GoodIn wsX11_clock (va_wsS RX11 83 yJxf58ca_floatToIntBits_5c35a wsJxf58ca_floatToIntBits_5c35a) := goodIn_app (goodIn_of _ (by decide +kernel)) ggX11_clock_Jxf58ca_floatToIntBits_5c35a
set_option maxRecDepth 20000 in
theorem ggX11_clock_Jxe99ae_doubleToLongBits_ccdee : GoodIn wsX11_clock wsJxe99ae_doubleToLongBits_ccdee := goodIn_r _ [22, 23, 24, 25, 26, 27, 28, 29, 21, 30] (by decide +kernel) (by decide +kernel)
set_option maxRecDepth 20000 in
theorem gX11_clock_Jxe99ae_doubleToLongBits_ccdee : GoodIn wsX11_clock (va_wsS RX11 79 yJxe99ae_doubleToLongBits_ccdee wsJxe99ae_doubleToLongBits_ccdee) := goodIn_app (goodIn_of _ (by decide +kernel)) ggX11_clock_Jxe99ae_doubleToLongBits_ccdee
theorem dX11_clock_0 : decode cX11_clock 0 = .ok (.iload_n 3, 1) := by decide +kernel
theorem dX11_clock_1 : decode cX11_clock 1 = .ok (.iconst 0, 1) := by decide +kernel
theorem dX11_clock_2 : decode cX11_clock 2 = .ok (.iconst 5, 1) := by decide +kernel
theorem dX11_clock_3 : decode cX11_clock 3 = .ok (.invokestatic 93, 3) := by decide +kernel
theorem dX11_clock_6 : decode cX11_clock 6 = .ok (.ifCond .ne 5, 3) := by decide +kernel
theorem dX11_clock_9 : decode cX11_clock 9 = .ok (.iconst (-1), 1) := by decide +kernel
theorem dX11_clock_10 : decode cX11_clock 10 = .ok (.ireturn, 1) := by decide +kernel
theorem dX11_clock_11 : decode cX11_clock 11 = .ok (.aload_n 0, 1) := by decide +kernel
theorem dX11_clock_12 : decode cX11_clock 12 = .ok (.aload_n 0, 1) := by decide +kernel
theorem dX11_clock_13 : decode cX11_clock 13 = .ok (.getfield 172, 3) := by decide +kernel
theorem dX11_clock_16 : decode cX11_clock 16 = .ok (.lload_n 1, 1) := by decide +kernel
theorem dX11_clock_17 : decode cX11_clock 17 = .ok (.ladd, 1) := by decide +kernel
theorem dX11_clock_18 : decode cX11_clock 18 = .ok (.putfield 172, 3) := by decide +kernel
theorem dX11_clock_21 : decode cX11_clock 21 = .ok (.iload_n 3, 1) := by decide +kernel
theorem dX11_clock_22 : decode cX11_clock 22 = .ok (.tableswitch 102 0 4 #[34, 45, 61, 76, 89], 34) := by decide +kernel
theorem dX11_clock_56 : decode cX11_clock 56 = .ok (.aload_n 0, 1) := by decide +kernel
theorem dX11_clock_57 : decode cX11_clock 57 = .ok (.aload_n 0, 1) := by decide +kernel
theorem dX11_clock_58 : decode cX11_clock 58 = .ok (.getfield 172, 3) := by decide +kernel
theorem dX11_clock_61 : decode cX11_clock 61 = .ok (.putfield 129, 3) := by decide +kernel
theorem dX11_clock_64 : decode cX11_clock 64 = .ok (.goto 71, 3) := by decide +kernel
theorem dX11_clock_67 : decode cX11_clock 67 = .ok (.aload_n 0, 1) := by decide +kernel
theorem dX11_clock_68 : decode cX11_clock 68 = .ok (.aload_n 0, 1) := by decide +kernel
theorem dX11_clock_69 : decode cX11_clock 69 = .ok (.getfield 172, 3) := by decide +kernel
theorem dX11_clock_72 : decode cX11_clock 72 = .ok (.l2f, 1) := by decide +kernel
theorem dX11_clock_73 : decode cX11_clock 73 = .ok (.invokestatic 83, 3) := by decide +kernel
theorem dX11_clock_76 : decode cX11_clock 76 = .ok (.i2l, 1) := by decide +kernel
theorem dX11_clock_77 : decode cX11_clock 77 = .ok (.putfield 129, 3) := by decide +kernel
theorem dX11_clock_80 : decode cX11_clock 80 = .ok (.goto 55, 3) := by decide +kernel
theorem dX11_clock_83 : decode cX11_clock 83 = .ok (.aload_n 0, 1) := by decide +kernel
theorem dX11_clock_84 : decode cX11_clock 84 = .ok (.aload_n 0, 1) := by decide +kernel
theorem dX11_clock_85 : decode cX11_clock 85 = .ok (.getfield 172, 3) := by decide +kernel
theorem dX11_clock_88 : decode cX11_clock 88 = .ok (.l2d, 1) := by decide +kernel
theorem dX11_clock_89 : decode cX11_clock 89 = .ok (.invokestatic 79, 3) := by decide +kernel
theorem dX11_clock_92 : decode cX11_clock 92 = .ok (.putfield 129, 3) := by decide +kernel
theorem dX11_clock_95 : decode cX11_clock 95 = .ok (.goto 40, 3) := by decide +kernel
theorem dX11_clock_98 : decode cX11_clock 98 = .ok (.aload_n 0, 1) := by decide +kernel
theorem dX11_clock_99 : decode cX11_clock 99 = .ok (.aload_n 0, 1) := by decide +kernel
theorem dX11_clock_100 : decode cX11_clock 100 = .ok (.getfield 172, 3) := by decide +kernel
theorem dX11_clock_103 : decode cX11_clock 103 = .ok (.l2f, 1) := by decide +kernel
theorem dX11_clock_104 : decode cX11_clock 104 = .ok (.f2l, 1) := by decide +kernel
theorem dX11_clock_105 : decode cX11_clock 105 = .ok (.putfield 129, 3) := by decide +kernel
theorem dX11_clock_108 : decode cX11_clock 108 = .ok (.goto 27, 3) := by decide +kernel
theorem dX11_clock_111 : decode cX11_clock 111 = .ok (.aload_n 0, 1) := by decide +kernel
theorem dX11_clock_112 : decode cX11_clock 112 = .ok (.aload_n 0, 1) := by decide +kernel
theorem dX11_clock_113 : decode cX11_clock 113 = .ok (.getfield 172, 3) := by decide +kernel
theorem dX11_clock_116 : decode cX11_clock 116 = .ok (.l2d, 1) := by decide +kernel
theorem dX11_clock_117 : decode cX11_clock 117 = .ok (.d2l, 1) := by decide +kernel
theorem dX11_clock_118 : decode cX11_clock 118 = .ok (.putfield 129, 3) := by decide +kernel
theorem dX11_clock_121 : decode cX11_clock 121 = .ok (.goto 14, 3) := by decide +kernel
theorem dX11_clock_124 : decode cX11_clock 124 = .ok (.aload_n 0, 1) := by decide +kernel
theorem dX11_clock_125 : decode cX11_clock 125 = .ok (.aload_n 0, 1) := by decide +kernel
theorem dX11_clock_126 : decode cX11_clock 126 = .ok (.getfield 172, 3) := by decide +kernel
theorem dX11_clock_129 : decode cX11_clock 129 = .ok (.l2f, 1) := by decide +kernel
theorem dX11_clock_130 : decode cX11_clock 130 = .ok (.f2i, 1) := by decide +kernel
theorem dX11_clock_131 : decode cX11_clock 131 = .ok (.i2l, 1) := by decide +kernel
theorem dX11_clock_132 : decode cX11_clock 132 = .ok (.putfield 129, 3) := by decide +kernel
theorem dX11_clock_135 : decode cX11_clock 135 = .ok (.iconst 1, 1) := by decide +kernel
theorem dX11_clock_136 : decode cX11_clock 136 = .ok (.ireturn, 1) := by decide +kernel
theorem dX11_told_0 : decode cX11_told 0 = .ok (.aload_n 0, 1) := by decide +kernel
theorem dX11_told_1 : decode cX11_told 1 = .ok (.getfield 129, 3) := by decide +kernel
theorem dX11_told_4 : decode cX11_told 4 = .ok (.lreturn, 1) := by decide +kernel
theorem dJxe99ae_isNaN_b9ae7_0 : decode cJxe99ae_isNaN_b9ae7 0 = .ok (.dload_n 0, 1) := by decide +kernel
theorem dJxe99ae_isNaN_b9ae7_1 : decode cJxe99ae_isNaN_b9ae7 1 = .ok (.dload_n 0, 1) := by decide +kernel
theorem dJxe99ae_isNaN_b9ae7_2 : decode cJxe99ae_isNaN_b9ae7 2 = .ok (.dcmp .l, 1) := by decide +kernel
theorem dJxe99ae_isNaN_b9ae7_3 : decode cJxe99ae_isNaN_b9ae7 3 = .ok (.ifCond .eq 7, 3) := by decide +kernel
theorem dJxe99ae_isNaN_b9ae7_6 : decode cJxe99ae_isNaN_b9ae7 6 = .ok (.iconst 1, 1) := by decide +kernel
theorem dJxe99ae_isNaN_b9ae7_7 : decode cJxe99ae_isNaN_b9ae7 7 = .ok (.goto 4, 3) := by decide +kernel
theorem dJxe99ae_isNaN_b9ae7_10 : decode cJxe99ae_isNaN_b9ae7 10 = .ok (.iconst 0, 1) := by decide +kernel
theorem dJxe99ae_isNaN_b9ae7_11 : decode cJxe99ae_isNaN_b9ae7 11 = .ok (.ireturn, 1) := by decide +kernel
set_option maxRecDepth 20000 in
theorem ggJxe99ae_doubleToLongBits_ccdee_Jxe99ae_isNaN_b9ae7 : GoodIn wsJxe99ae_doubleToLongBits_ccdee wsJxe99ae_isNaN_b9ae7 := goodIn_r _ [9] (by decide +kernel) (by decide +kernel)
set_option maxRecDepth 20000 in
theorem gJxe99ae_doubleToLongBits_ccdee_Jxe99ae_isNaN_b9ae7 : GoodIn wsJxe99ae_doubleToLongBits_ccdee (va_wsS RJxe99ae 122 yJxe99ae_isNaN_b9ae7 wsJxe99ae_isNaN_b9ae7) := goodIn_app (goodIn_of _ (by decide +kernel)) ggJxe99ae_doubleToLongBits_ccdee_Jxe99ae_isNaN_b9ae7
theorem dJxe99ae_doubleToLongBits_ccdee_0 : decode cJxe99ae_doubleToLongBits_ccdee 0 = .ok (.dload_n 0, 1) := by decide +kernel
theorem dJxe99ae_doubleToLongBits_ccdee_1 : decode cJxe99ae_doubleToLongBits_ccdee 1 = .ok (.invokestatic 122, 3) := by decide +kernel
theorem dJxe99ae_doubleToLongBits_ccdee_4 : decode cJxe99ae_doubleToLongBits_ccdee 4 = .ok (.ifCond .ne 8, 3) := by decide +kernel
theorem dJxe99ae_doubleToLongBits_ccdee_7 : decode cJxe99ae_doubleToLongBits_ccdee 7 = .ok (.dload_n 0, 1) := by decide +kernel
theorem dJxe99ae_doubleToLongBits_ccdee_8 : decode cJxe99ae_doubleToLongBits_ccdee 8 = .ok (.invokestatic 134, 3) := by decide +kernel
theorem dJxe99ae_doubleToLongBits_ccdee_11 : decode cJxe99ae_doubleToLongBits_ccdee 11 = .ok (.lreturn, 1) := by decide +kernel
theorem dJxe99ae_doubleToLongBits_ccdee_12 : decode cJxe99ae_doubleToLongBits_ccdee 12 = .ok (.ldc2_w 137, 3) := by decide +kernel
theorem dJxe99ae_doubleToLongBits_ccdee_15 : decode cJxe99ae_doubleToLongBits_ccdee 15 = .ok (.lreturn, 1) := by decide +kernel
theorem dJxf58ca_isNaN_12338_0 : decode cJxf58ca_isNaN_12338 0 = .ok (.fload_n 0, 1) := by decide +kernel
theorem dJxf58ca_isNaN_12338_1 : decode cJxf58ca_isNaN_12338 1 = .ok (.fload_n 0, 1) := by decide +kernel
theorem dJxf58ca_isNaN_12338_2 : decode cJxf58ca_isNaN_12338 2 = .ok (.fcmp .l, 1) := by decide +kernel
theorem dJxf58ca_isNaN_12338_3 : decode cJxf58ca_isNaN_12338 3 = .ok (.ifCond .eq 7, 3) := by decide +kernel
theorem dJxf58ca_isNaN_12338_6 : decode cJxf58ca_isNaN_12338 6 = .ok (.iconst 1, 1) := by decide +kernel
theorem dJxf58ca_isNaN_12338_7 : decode cJxf58ca_isNaN_12338 7 = .ok (.goto 4, 3) := by decide +kernel
theorem dJxf58ca_isNaN_12338_10 : decode cJxf58ca_isNaN_12338 10 = .ok (.iconst 0, 1) := by decide +kernel
theorem dJxf58ca_isNaN_12338_11 : decode cJxf58ca_isNaN_12338 11 = .ok (.ireturn, 1) := by decide +kernel
set_option maxRecDepth 20000 in
theorem ggJxf58ca_floatToIntBits_5c35a_Jxf58ca_isNaN_12338 : GoodIn wsJxf58ca_floatToIntBits_5c35a wsJxf58ca_isNaN_12338 := goodIn_r _ [9] (by decide +kernel) (by decide +kernel)
set_option maxRecDepth 20000 in
theorem gJxf58ca_floatToIntBits_5c35a_Jxf58ca_isNaN_12338 : GoodIn wsJxf58ca_floatToIntBits_5c35a (va_wsS RJxf58ca 59 yJxf58ca_isNaN_12338 wsJxf58ca_isNaN_12338) := goodIn_app (goodIn_of _ (by decide +kernel)) ggJxf58ca_floatToIntBits_5c35a_Jxf58ca_isNaN_12338
theorem dJxf58ca_floatToIntBits_5c35a_0 : decode cJxf58ca_floatToIntBits_5c35a 0 = .ok (.fload_n 0, 1) := by decide +kernel
theorem dJxf58ca_floatToIntBits_5c35a_1 : decode cJxf58ca_floatToIntBits_5c35a 1 = .ok (.invokestatic 59, 3) := by decide +kernel
theorem dJxf58ca_floatToIntBits_5c35a_4 : decode cJxf58ca_floatToIntBits_5c35a 4 = .ok (.ifCond .ne 8, 3) := by decide +kernel
theorem dJxf58ca_floatToIntBits_5c35a_7 : decode cJxf58ca_floatToIntBits_5c35a 7 = .ok (.fload_n 0, 1) := by decide +kernel
theorem dJxf58ca_floatToIntBits_5c35a_8 : decode cJxf58ca_floatToIntBits_5c35a 8 = .ok (.invokestatic 74, 3) := by decide +kernel
theorem dJxf58ca_floatToIntBits_5c35a_11 : decode cJxf58ca_floatToIntBits_5c35a 11 = .ok (.ireturn, 1) := by decide +kernel
theorem dJxf58ca_floatToIntBits_5c35a_12 : decode cJxf58ca_floatToIntBits_5c35a 12 = .ok (.ldc 77, 2) := by decide +kernel
theorem dJxf58ca_floatToIntBits_5c35a_14 : decode cJxf58ca_floatToIntBits_5c35a 14 = .ok (.ireturn, 1) := by decide +kernel
theorem dJ9_max_7cf53_0 : decode cJ9_max_7cf53 0 = .ok (.iload_n 0, 1) := by decide +kernel
theorem dJ9_max_7cf53_1 : decode cJ9_max_7cf53 1 = .ok (.iload_n 1, 1) := by decide +kernel
theorem dJ9_max_7cf53_2 : decode cJ9_max_7cf53 2 = .ok (.if_icmp .lt 7, 3) := by decide +kernel
theorem dJ9_max_7cf53_5 : decode cJ9_max_7cf53 5 = .ok (.iload_n 0, 1) := by decide +kernel
theorem dJ9_max_7cf53_6 : decode cJ9_max_7cf53 6 = .ok (.goto 4, 3) := by decide +kernel
theorem dJ9_max_7cf53_9 : decode cJ9_max_7cf53 9 = .ok (.iload_n 1, 1) := by decide +kernel
theorem dJ9_max_7cf53_10 : decode cJ9_max_7cf53 10 = .ok (.ireturn, 1) := by decide +kernel
set_option maxRecDepth 20000 in
theorem ggL_law_X10_init : GoodIn wsL_law wsX10_init := goodIn_r _ [9, 10, 11, 12, 13, 14, 15, 16, 17, 18, 19, 20, 21, 22, 23, 519, 520, 521, 522, 523, 524, 525, 526, 527] (by decide +kernel) (by decide +kernel)
set_option maxRecDepth 20000 in
theorem gL_law_X10_init : GoodIn wsL_law (wsX10_init) := ggL_law_X10_init
set_option maxRecDepth 20000 in
theorem ggL_law_X11_init : GoodIn wsL_law wsX11_init := goodIn_r _ [26, 27, 11, 12, 28, 29, 30, 31, 32, 33, 34, 35, 36, 37, 38, 39, 40, 41, 42, 43, 44, 45, 46, 47, 528, 529, 530, 531, 532, 533, 534, 535, 536, 537, 538, 539, 540, 541, 542, 543, 544, 545, 546, 547, 548] (by decide +kernel) (by decide +kernel)
set_option maxRecDepth 20000 in
theorem gL_law_X11_init : GoodIn wsL_law (wsX11_init) := ggL_law_X11_init
set_option maxRecDepth 20000 in
theorem ggL_law_X10_row : GoodIn wsL_law wsX10_row := goodIn_r _ [51, 15, 52, 53, 54, 14, 55, 56, 57, 58, 59, 2, 60, 61, 62, 63, 30, 64, 65, 66, 67, 68, 11, 12, 69, 70, 71, 22, 72, 519, 520, 521, 522, 523, 524, 525, 526, 527, 549, 550] (by decide +kernel) (by decide +kernel)
set_option maxRecDepth 20000 in
theorem gL_law_X10_row : GoodIn wsL_law (wsV RL 13 RX10 yX10_row wsX10_row) := goodIn_app (goodIn_of _ (by decide +kernel)) ggL_law_X10_row
set_option maxRecDepth 20000 in
theorem ggL_law_X11_row : GoodIn wsL_law wsX11_row := goodIn_r _ [76, 29, 77, 31, 32, 78, 79, 5, 80, 81, 82, 83, 528, 529, 530, 531, 532, 533, 534, 535, 536, 537, 538, 539, 540, 541, 542, 543, 544, 545, 546, 547, 548] (by decide +kernel) (by decide +kernel)
set_option maxRecDepth 20000 in
theorem gL_law_X11_row : GoodIn wsL_law (wsV RL 17 RX11 yX11_row wsX11_row) := goodIn_app (goodIn_of _ (by decide +kernel)) ggL_law_X11_row
set_option maxRecDepth 20000 in
theorem ggL_law_X10_share : GoodIn wsL_law wsX10_share := goodIn_r _ [87, 58, 59, 2, 60, 88, 89, 90, 91, 15, 14, 519, 520, 521, 522, 523, 524, 525, 526, 527] (by decide +kernel) (by decide +kernel)
set_option maxRecDepth 20000 in
theorem gL_law_X10_share : GoodIn wsL_law (wsV RL 18 RX10 yX10_share wsX10_share) := goodIn_app (goodIn_of _ (by decide +kernel)) ggL_law_X10_share
set_option maxRecDepth 20000 in
theorem ggL_law_X11_share : GoodIn wsL_law wsX11_share := goodIn_r _ [95, 32, 78, 79, 5, 80, 81, 82, 83, 528, 529, 530, 531, 532, 533, 534, 535, 536, 537, 538, 539, 540, 541, 542, 543, 544, 545, 546, 547, 548] (by decide +kernel) (by decide +kernel)
set_option maxRecDepth 20000 in
theorem gL_law_X11_share : GoodIn wsL_law (wsV RL 21 RX11 yX11_share wsX11_share) := goodIn_app (goodIn_of _ (by decide +kernel)) ggL_law_X11_share
set_option maxRecDepth 20000 in
theorem ggL_law_X10_drop : GoodIn wsL_law wsX10_drop := goodIn_r _ [99, 58, 59, 2, 60, 88, 89, 90, 91, 15, 14, 519, 520, 521, 522, 523, 524, 525, 526, 527] (by decide +kernel) (by decide +kernel)
set_option maxRecDepth 20000 in
theorem gL_law_X10_drop : GoodIn wsL_law (wsV RL 22 RX10 yX10_drop wsX10_drop) := goodIn_app (goodIn_of _ (by decide +kernel)) ggL_law_X10_drop
set_option maxRecDepth 20000 in
theorem ggL_law_X11_drop : GoodIn wsL_law wsX11_drop := goodIn_r _ [103, 32, 78, 79, 5, 80, 81, 82, 83, 528, 529, 530, 531, 532, 533, 534, 535, 536, 537, 538, 539, 540, 541, 542, 543, 544, 545, 546, 547, 548] (by decide +kernel) (by decide +kernel)
set_option maxRecDepth 20000 in
theorem gL_law_X11_drop : GoodIn wsL_law (wsV RL 26 RX11 yX11_drop wsX11_drop) := goodIn_app (goodIn_of _ (by decide +kernel)) ggL_law_X11_drop
set_option maxRecDepth 20000 in
theorem ggL_law_X10_set : GoodIn wsL_law wsX10_set := goodIn_r _ [107, 58, 59, 2, 60, 108, 109, 110, 111, 112, 113, 114, 88, 89, 90, 91, 15, 14, 115, 116, 117, 118, 119, 120, 121, 54, 122, 64, 123, 124, 57, 125, 72, 126, 127, 128, 129, 130, 131, 132, 133, 134, 135, 136, 137, 138, 139, 140, 141, 142, 143, 144, 145, 146, 519, 520, 521, 522, 523, 524, 525, 526, 527, 549, 550] (by decide +kernel) (by decide +kernel)
set_option maxRecDepth 20000 in
theorem gL_law_X10_set : GoodIn wsL_law (wsV RL 29 RX10 yX10_set wsX10_set) := goodIn_app (goodIn_of _ (by decide +kernel)) ggL_law_X10_set
set_option maxRecDepth 20000 in
theorem ggL_law_X11_set : GoodIn wsL_law wsX11_set := goodIn_r _ [150, 31, 32, 78, 79, 5, 80, 151, 152, 153, 154, 155, 156, 157, 158, 159, 160, 161, 29, 81, 82, 83, 162, 163, 164, 165, 166, 167, 168, 169, 170, 171, 172, 173, 174, 175, 528, 529, 530, 531, 532, 533, 534, 535, 536, 537, 538, 539, 540, 541, 542, 543, 544, 545, 546, 547, 548] (by decide +kernel) (by decide +kernel)
set_option maxRecDepth 20000 in
theorem gL_law_X11_set : GoodIn wsL_law (wsV RL 33 RX11 yX11_set wsX11_set) := goodIn_app (goodIn_of _ (by decide +kernel)) ggL_law_X11_set
set_option maxRecDepth 20000 in
theorem ggL_law_X10_get : GoodIn wsL_law wsX10_get := goodIn_r _ [179, 58, 59, 2, 60, 88, 89, 90, 91, 15, 14, 115, 116, 117, 118, 119, 120, 121, 54, 122, 64, 123, 124, 57, 125, 72, 126, 127, 128, 180, 181, 182, 183, 184, 185, 186, 187, 188, 189, 110, 190, 191, 192, 193, 194, 195, 196, 197, 198, 199, 200, 201, 202, 203, 519, 520, 521, 522, 523, 524, 525, 526, 527, 549, 550] (by decide +kernel) (by decide +kernel)
set_option maxRecDepth 20000 in
theorem gL_law_X10_get : GoodIn wsL_law (wsV RL 34 RX10 yX10_get wsX10_get) := goodIn_app (goodIn_of _ (by decide +kernel)) ggL_law_X10_get
set_option maxRecDepth 20000 in
theorem ggL_law_X11_get : GoodIn wsL_law wsX11_get := goodIn_r _ [207, 208, 78, 79, 5, 80, 158, 159, 160, 161, 32, 29, 81, 82, 83, 162, 163, 164, 209, 210, 211, 212, 31, 213, 214, 215, 216, 217, 218, 219, 220, 221, 222, 171, 223, 224, 225, 226, 227, 228, 229, 230, 231, 232, 233, 175, 234, 235, 236, 237, 528, 529, 530, 531, 532, 533, 534, 535, 536, 537, 538, 539, 540, 541, 542, 543, 544, 545, 546, 547, 548] (by decide +kernel) (by decide +kernel)
set_option maxRecDepth 20000 in
theorem gL_law_X11_get : GoodIn wsL_law (wsV RL 37 RX11 yX11_get wsX11_get) := goodIn_app (goodIn_of _ (by decide +kernel)) ggL_law_X11_get
set_option maxRecDepth 20000 in
theorem ggL_law_X10_wrap : GoodIn wsL_law wsX10_wrap := goodIn_r _ [241, 58, 59, 2, 60, 88, 89, 90, 91, 15, 14, 115, 116, 117, 118, 119, 120, 121, 54, 122, 64, 123, 124, 57, 125, 72, 126, 127, 128, 180, 181, 182, 183, 184, 185, 186, 187, 242, 243, 110, 244, 191, 193, 194, 195, 245, 246, 247, 139, 140, 141, 142, 143, 144, 145, 146, 519, 520, 521, 522, 523, 524, 525, 526, 527, 549, 550] (by decide +kernel) (by decide +kernel)
set_option maxRecDepth 20000 in
theorem gL_law_X10_wrap : GoodIn wsL_law (wsV RL 38 RX10 yX10_wrap wsX10_wrap) := goodIn_app (goodIn_of _ (by decide +kernel)) ggL_law_X10_wrap
set_option maxRecDepth 20000 in
theorem ggL_law_X11_wrap : GoodIn wsL_law wsX11_wrap := goodIn_r _ [251, 31, 32, 78, 79, 5, 80, 158, 159, 160, 161, 29, 81, 82, 83, 162, 163, 164, 209, 210, 211, 212, 528, 529, 530, 531, 532, 533, 534, 535, 536, 537, 538, 539, 540, 541, 542, 543, 544, 545, 546, 547, 548] (by decide +kernel) (by decide +kernel)
set_option maxRecDepth 20000 in
theorem gL_law_X11_wrap : GoodIn wsL_law (wsV RL 42 RX11 yX11_wrap wsX11_wrap) := goodIn_app (goodIn_of _ (by decide +kernel)) ggL_law_X11_wrap
set_option maxRecDepth 20000 in
theorem ggL_law_X10_effect : GoodIn wsL_law wsX10_effect := goodIn_r _ [255, 256, 17, 58, 59, 2, 60, 257, 258, 259, 108, 109, 110, 111, 112, 113, 114, 129, 130, 131, 132, 133, 134, 135, 136, 137, 138, 260, 261, 262, 263, 264, 265, 266, 267, 268, 269, 270, 271, 272, 273, 274, 275, 276, 277, 278, 279, 11, 12, 280, 281, 282, 283, 284, 285, 286, 287, 288, 519, 520, 521, 522, 523, 524, 525, 526, 527, 551, 552, 553] (by decide +kernel) (by decide +kernel)
set_option maxRecDepth 20000 in
theorem gL_law_X10_effect : GoodIn wsL_law (wsV RL 43 RX10 yX10_effect wsX10_effect) := goodIn_app (goodIn_of _ (by decide +kernel)) ggL_law_X10_effect
set_option maxRecDepth 20000 in
theorem ggL_law_X11_effect : GoodIn wsL_law wsX11_effect := goodIn_r _ [292, 168, 169, 170, 171, 293, 294, 33, 295, 34, 35, 78, 79, 5, 80, 151, 152, 153, 154, 155, 156, 157, 528, 529, 530, 531, 532, 533, 534, 535, 536, 537, 538, 539, 540, 541, 542, 543, 544, 545, 546, 547, 548] (by decide +kernel) (by decide +kernel)
set_option maxRecDepth 20000 in
theorem gL_law_X11_effect : GoodIn wsL_law (wsV RL 47 RX11 yX11_effect wsX11_effect) := goodIn_app (goodIn_of _ (by decide +kernel)) ggL_law_X11_effect
set_option maxRecDepth 20000 in
theorem ggL_law_X10_make : GoodIn wsL_law wsX10_make := goodIn_r _ [299, 17, 58, 59, 2, 60, 108, 109, 110, 111, 112, 113, 114, 126, 127, 128, 129, 130, 131, 132, 133, 134, 135, 136, 137, 138, 300, 301, 302, 303, 277, 304, 305, 306, 307, 308, 271, 309, 310, 311, 312, 313, 314, 268, 315, 316, 317, 318, 319, 320, 321, 322, 265, 323, 324, 325, 326, 243, 244, 191, 193, 194, 195, 245, 246, 247, 327, 328, 329, 330, 331, 332, 333, 188, 189, 190, 192, 196, 197, 198, 199, 200, 201, 202, 203, 519, 520, 521, 522, 523, 524, 525, 526, 527, 553, 552, 551] (by decide +kernel) (by decide +kernel)
set_option maxRecDepth 20000 in
theorem gL_law_X10_make : GoodIn wsL_law (wsV RL 48 RX10 yX10_make wsX10_make) := goodIn_app (goodIn_of _ (by decide +kernel)) ggL_law_X10_make
set_option maxRecDepth 20000 in
theorem ggL_law_X11_make : GoodIn wsL_law wsX11_make := goodIn_r _ [337, 35, 208, 78, 79, 5, 80, 151, 152, 153, 154, 155, 156, 157, 162, 163, 164, 165, 166, 167, 168, 169, 170, 171, 172, 173, 174, 175, 338, 339, 340, 341, 34, 33, 342, 343, 344, 345, 346, 347, 348, 349, 350, 351, 213, 214, 215, 216, 217, 218, 219, 220, 221, 222, 223, 224, 225, 226, 227, 228, 229, 230, 231, 232, 233, 234, 235, 236, 237, 528, 529, 530, 531, 532, 533, 534, 535, 536, 537, 538, 539, 540, 541, 542, 543, 544, 545, 546, 547, 548] (by decide +kernel) (by decide +kernel)
set_option maxRecDepth 20000 in
theorem gL_law_X11_make : GoodIn wsL_law (wsV RL 52 RX11 yX11_make wsX11_make) := goodIn_app (goodIn_of _ (by decide +kernel)) ggL_law_X11_make
set_option maxRecDepth 20000 in
theorem ggL_law_X10_rack : GoodIn wsL_law wsX10_rack := goodIn_r _ [355, 19, 18, 356, 357, 58, 59, 2, 60, 358, 359, 360, 361, 11, 12, 362, 363, 364, 519, 520, 521, 522, 523, 524, 525, 526, 527, 554, 555] (by decide +kernel) (by decide +kernel)
set_option maxRecDepth 20000 in
theorem gL_law_X10_rack : GoodIn wsL_law (wsV RL 53 RX10 yX10_rack wsX10_rack) := goodIn_app (goodIn_of _ (by decide +kernel)) ggL_law_X10_rack
set_option maxRecDepth 20000 in
theorem ggL_law_X11_rack : GoodIn wsL_law wsX11_rack := goodIn_r _ [368, 36, 37, 78, 79, 5, 80, 528, 529, 530, 531, 532, 533, 534, 535, 536, 537, 538, 539, 540, 541, 542, 543, 544, 545, 546, 547, 548] (by decide +kernel) (by decide +kernel)
set_option maxRecDepth 20000 in
theorem gL_law_X11_rack : GoodIn wsL_law (wsV RL 57 RX11 yX11_rack wsX11_rack) := goodIn_app (goodIn_of _ (by decide +kernel)) ggL_law_X11_rack
set_option maxRecDepth 20000 in
theorem ggL_law_X10_hang : GoodIn wsL_law wsX10_hang := goodIn_r _ [372, 19, 17, 58, 59, 2, 60, 373, 374, 375, 126, 127, 128, 376, 377, 378, 379, 380, 381, 382, 271, 383, 384, 385, 268, 386, 387, 388, 321, 389, 265, 390, 391, 519, 520, 521, 522, 523, 524, 525, 526, 527, 554, 555] (by decide +kernel) (by decide +kernel)
set_option maxRecDepth 20000 in
theorem gL_law_X10_hang : GoodIn wsL_law (wsV RL 58 RX10 yX10_hang wsX10_hang) := goodIn_app (goodIn_of _ (by decide +kernel)) ggL_law_X10_hang
set_option maxRecDepth 20000 in
theorem ggL_law_X11_hang : GoodIn wsL_law wsX11_hang := goodIn_r _ [395, 36, 35, 33, 37, 78, 79, 5, 80, 162, 163, 164, 396, 397, 398, 528, 529, 530, 531, 532, 533, 534, 535, 536, 537, 538, 539, 540, 541, 542, 543, 544, 545, 546, 547, 548] (by decide +kernel) (by decide +kernel)
set_option maxRecDepth 20000 in
theorem gL_law_X11_hang : GoodIn wsL_law (wsV RL 62 RX11 yX11_hang wsX11_hang) := goodIn_app (goodIn_of _ (by decide +kernel)) ggL_law_X11_hang
set_option maxRecDepth 20000 in
theorem ggL_law_X10_take : GoodIn wsL_law wsX10_take := goodIn_r _ [402, 19, 17, 58, 59, 2, 60, 373, 374, 375, 126, 127, 128, 376, 377, 378, 379, 380, 381, 382, 271, 383, 384, 385, 268, 386, 387, 388, 321, 389, 265, 390, 391, 519, 520, 521, 522, 523, 524, 525, 526, 527, 554, 555] (by decide +kernel) (by decide +kernel)
set_option maxRecDepth 20000 in
theorem gL_law_X10_take : GoodIn wsL_law (wsV RL 63 RX10 yX10_take wsX10_take) := goodIn_app (goodIn_of _ (by decide +kernel)) ggL_law_X10_take
set_option maxRecDepth 20000 in
theorem ggL_law_X11_take : GoodIn wsL_law wsX11_take := goodIn_r _ [406, 36, 37, 33, 35, 78, 79, 5, 80, 162, 163, 164, 396, 397, 398, 528, 529, 530, 531, 532, 533, 534, 535, 536, 537, 538, 539, 540, 541, 542, 543, 544, 545, 546, 547, 548] (by decide +kernel) (by decide +kernel)
set_option maxRecDepth 20000 in
theorem gL_law_X11_take : GoodIn wsL_law (wsV RL 67 RX11 yX11_take wsX11_take) := goodIn_app (goodIn_of _ (by decide +kernel)) ggL_law_X11_take
set_option maxRecDepth 20000 in
theorem ggL_law_X10_head : GoodIn wsL_law wsX10_head := goodIn_r _ [410, 21, 20, 411, 412, 58, 59, 2, 60, 257, 258, 259, 108, 109, 110, 111, 112, 113, 114, 129, 130, 131, 132, 133, 134, 135, 136, 137, 138, 413, 414, 415, 416, 11, 12, 417, 418, 419, 420, 519, 520, 521, 522, 523, 524, 525, 526, 527, 556, 557, 558, 559, 560, 561] (by decide +kernel) (by decide +kernel)
set_option maxRecDepth 20000 in
theorem gL_law_X10_head : GoodIn wsL_law (wsV RL 68 RX10 yX10_head wsX10_head) := goodIn_app (goodIn_of _ (by decide +kernel)) ggL_law_X10_head
set_option maxRecDepth 20000 in
theorem ggL_law_X11_head : GoodIn wsL_law wsX11_head := goodIn_r _ [424, 168, 169, 170, 171, 425, 426, 39, 40, 41, 42, 43, 44, 46, 78, 79, 5, 80, 151, 152, 153, 154, 155, 156, 157, 528, 529, 530, 531, 532, 533, 534, 535, 536, 537, 538, 539, 540, 541, 542, 543, 544, 545, 546, 547, 548] (by decide +kernel) (by decide +kernel)
set_option maxRecDepth 20000 in
theorem gL_law_X11_head : GoodIn wsL_law (wsV RL 72 RX11 yX11_head wsX11_head) := goodIn_app (goodIn_of _ (by decide +kernel)) ggL_law_X11_head
set_option maxRecDepth 20000 in
theorem ggL_law_X10_play : GoodIn wsL_law wsX10_play := goodIn_r _ [430, 21, 431, 58, 59, 2, 60, 432, 433, 434, 435, 14, 15, 19, 436, 23, 437, 438, 439, 115, 116, 117, 118, 119, 120, 121, 54, 122, 64, 123, 124, 57, 125, 72, 440, 441, 442, 357, 443, 364, 180, 181, 182, 183, 184, 185, 186, 187, 444, 329, 110, 330, 331, 445, 446, 447, 448, 449, 301, 302, 303, 277, 304, 305, 306, 307, 308, 271, 309, 310, 311, 312, 133, 134, 135, 313, 314, 268, 315, 316, 317, 318, 319, 320, 321, 322, 265, 323, 324, 325, 326, 243, 244, 191, 193, 194, 195, 245, 246, 247, 327, 328, 332, 333, 450, 451, 452, 412, 453, 454, 420, 455, 456, 519, 520, 521, 522, 523, 524, 525, 526, 527, 556, 557, 558, 559, 560, 561, 549, 550, 554, 555, 553, 552, 551] (by decide +kernel) (by decide +kernel)
set_option maxRecDepth 20000 in
theorem gL_law_X10_play : GoodIn wsL_law (wsV RL 73 RX10 yX10_play wsX10_play) := goodIn_app (goodIn_of _ (by decide +kernel)) ggL_law_X10_play
set_option maxRecDepth 20000 in
theorem ggL_law_X11_play : GoodIn wsL_law wsX11_play := goodIn_r _ [460, 39, 461, 78, 79, 5, 80, 462, 463, 464, 465, 44, 40, 41, 32, 29, 31, 46, 42, 36, 37, 466, 47, 43, 158, 159, 160, 161, 81, 82, 83, 209, 210, 211, 212, 345, 346, 347, 348, 349, 350, 351, 338, 339, 340, 341, 34, 33, 342, 343, 344, 528, 529, 530, 531, 532, 533, 534, 535, 536, 537, 538, 539, 540, 541, 542, 543, 544, 545, 546, 547, 548] (by decide +kernel) (by decide +kernel)
set_option maxRecDepth 20000 in
theorem gL_law_X11_play : GoodIn wsL_law (wsV RL 76 RX11 yX11_play wsX11_play) := goodIn_app (goodIn_of _ (by decide +kernel)) ggL_law_X11_play
set_option maxRecDepth 20000 in
theorem ggL_law_X10_failed : GoodIn wsL_law wsX10_failed := goodIn_r _ [470, 431, 126, 127, 2, 128, 519, 520, 521, 522, 523, 524, 525, 526, 527] (by decide +kernel) (by decide +kernel)
set_option maxRecDepth 20000 in
theorem gL_law_X10_failed : GoodIn wsL_law (wsV RL 77 RX10 yX10_failed wsX10_failed) := goodIn_app (goodIn_of _ (by decide +kernel)) ggL_law_X10_failed
set_option maxRecDepth 20000 in
theorem ggL_law_X11_failed : GoodIn wsL_law wsX11_failed := goodIn_r _ [474, 461, 162, 163, 5, 164, 528, 529, 530, 531, 532, 533, 534, 535, 536, 537, 538, 539, 540, 541, 542, 543, 544, 545, 546, 547, 548] (by decide +kernel) (by decide +kernel)
set_option maxRecDepth 20000 in
theorem gL_law_X11_failed : GoodIn wsL_law (wsV RL 81 RX11 yX11_failed wsX11_failed) := goodIn_app (goodIn_of _ (by decide +kernel)) ggL_law_X11_failed
set_option maxRecDepth 20000 in
theorem ggL_law_X10_mix : GoodIn wsL_law wsX10_mix := goodIn_r _ [478, 23, 479, 58, 59, 2, 60, 188, 189, 110, 190, 191, 192, 193, 194, 195, 196, 197, 198, 199, 200, 201, 202, 203, 519, 520, 521, 522, 523, 524, 525, 526, 527] (by decide +kernel) (by decide +kernel)
set_option maxRecDepth 20000 in
theorem gL_law_X10_mix : GoodIn wsL_law (wsV RL 82 RX10 yX10_mix wsX10_mix) := goodIn_app (goodIn_of _ (by decide +kernel)) ggL_law_X10_mix
set_option maxRecDepth 20000 in
theorem ggL_law_X11_mix : GoodIn wsL_law wsX11_mix := goodIn_r _ [483, 47, 484, 208, 78, 79, 5, 80, 213, 214, 215, 216, 217, 218, 219, 220, 221, 222, 171, 223, 224, 225, 226, 227, 228, 229, 230, 231, 232, 233, 175, 234, 235, 236, 237, 528, 529, 530, 531, 532, 533, 534, 535, 536, 537, 538, 539, 540, 541, 542, 543, 544, 545, 546, 547, 548] (by decide +kernel) (by decide +kernel)
set_option maxRecDepth 20000 in
theorem gL_law_X11_mix : GoodIn wsL_law (wsV RL 85 RX11 yX11_mix wsX11_mix) := goodIn_app (goodIn_of _ (by decide +kernel)) ggL_law_X11_mix
set_option maxRecDepth 20000 in
theorem ggL_law_X10_hush : GoodIn wsL_law wsX10_hush := goodIn_r _ [488, 23, 519, 520, 521, 522, 523, 524, 525, 526, 527] (by decide +kernel) (by decide +kernel)
set_option maxRecDepth 20000 in
theorem gL_law_X10_hush : GoodIn wsL_law (wsV RL 86 RX10 yX10_hush wsX10_hush) := goodIn_app (goodIn_of _ (by decide +kernel)) ggL_law_X10_hush
set_option maxRecDepth 20000 in
theorem ggL_law_X11_hush : GoodIn wsL_law wsX11_hush := goodIn_r _ [492, 47, 528, 529, 530, 531, 532, 533, 534, 535, 536, 537, 538, 539, 540, 541, 542, 543, 544, 545, 546, 547, 548] (by decide +kernel) (by decide +kernel)
set_option maxRecDepth 20000 in
theorem gL_law_X11_hush : GoodIn wsL_law (wsV RL 89 RX11 yX11_hush wsX11_hush) := goodIn_app (goodIn_of _ (by decide +kernel)) ggL_law_X11_hush
set_option maxRecDepth 20000 in
theorem ggL_law_X10_at : GoodIn wsL_law wsX10_at := goodIn_r _ [496, 21, 58, 59, 2, 60, 188, 189, 110, 190, 191, 192, 193, 194, 195, 196, 197, 198, 199, 200, 201, 202, 203, 519, 520, 521, 522, 523, 524, 525, 526, 527, 556, 557, 558, 559, 560, 561] (by decide +kernel) (by decide +kernel)
set_option maxRecDepth 20000 in
theorem gL_law_X10_at : GoodIn wsL_law (wsV RL 90 RX10 yX10_at wsX10_at) := goodIn_app (goodIn_of _ (by decide +kernel)) ggL_law_X10_at
set_option maxRecDepth 20000 in
theorem ggL_law_X11_at : GoodIn wsL_law wsX11_at := goodIn_r _ [500, 39, 44, 46, 208, 78, 79, 5, 80, 213, 214, 215, 216, 217, 218, 219, 220, 221, 222, 171, 223, 224, 225, 226, 227, 228, 229, 230, 231, 232, 233, 175, 234, 235, 236, 237, 528, 529, 530, 531, 532, 533, 534, 535, 536, 537, 538, 539, 540, 541, 542, 543, 544, 545, 546, 547, 548] (by decide +kernel) (by decide +kernel)
set_option maxRecDepth 20000 in
theorem gL_law_X11_at : GoodIn wsL_law (wsV RL 93 RX11 yX11_at wsX11_at) := goodIn_app (goodIn_of _ (by decide +kernel)) ggL_law_X11_at
set_option maxRecDepth 20000 in
theorem ggL_law_X10_clock : GoodIn wsL_law wsX10_clock := goodIn_r _ [504, 505, 58, 59, 2, 60, 199, 200, 201, 202, 203, 188, 189, 110, 190, 191, 192, 193, 194, 195, 196, 197, 198, 519, 520, 521, 522, 523, 524, 525, 526, 527] (by decide +kernel) (by decide +kernel)
set_option maxRecDepth 20000 in
theorem gL_law_X10_clock : GoodIn wsL_law (wsV RL 94 RX10 yX10_clock wsX10_clock) := goodIn_app (goodIn_of _ (by decide +kernel)) ggL_law_X10_clock
set_option maxRecDepth 20000 in
theorem ggL_law_X11_clock : GoodIn wsL_law wsX11_clock := goodIn_r _ [509, 510, 208, 78, 79, 5, 80, 227, 228, 229, 230, 231, 232, 233, 175, 234, 235, 236, 237, 216, 217, 218, 219, 220, 221, 222, 171, 223, 224, 225, 226, 528, 529, 530, 531, 532, 533, 534, 535, 536, 537, 538, 539, 540, 541, 542, 543, 544, 545, 546, 547, 548] (by decide +kernel) (by decide +kernel)
set_option maxRecDepth 20000 in
theorem gL_law_X11_clock : GoodIn wsL_law (wsV RL 98 RX11 yX11_clock wsX11_clock) := goodIn_app (goodIn_of _ (by decide +kernel)) ggL_law_X11_clock
set_option maxRecDepth 20000 in
theorem ggL_law_X10_told : GoodIn wsL_law wsX10_told := goodIn_r _ [514, 203, 519, 520, 521, 522, 523, 524, 525, 526, 527] (by decide +kernel) (by decide +kernel)
set_option maxRecDepth 20000 in
theorem gL_law_X10_told : GoodIn wsL_law (wsV RL 99 RX10 yX10_told wsX10_told) := goodIn_app (goodIn_of _ (by decide +kernel)) ggL_law_X10_told
set_option maxRecDepth 20000 in
theorem ggL_law_X11_told : GoodIn wsL_law wsX11_told := goodIn_r _ [518, 208, 528, 529, 530, 531, 532, 533, 534, 535, 536, 537, 538, 539, 540, 541, 542, 543, 544, 545, 546, 547, 548] (by decide +kernel) (by decide +kernel)
set_option maxRecDepth 20000 in
theorem gL_law_X11_told : GoodIn wsL_law (wsV RL 103 RX11 yX11_told wsX11_told) := goodIn_app (goodIn_of _ (by decide +kernel)) ggL_law_X11_told
theorem dL_law_0 : decode cL_law 0 = .ok (.new 7, 3) := by decide +kernel
theorem dL_law_3 : decode cL_law 3 = .ok (.dup, 1) := by decide +kernel
theorem dL_law_4 : decode cL_law 4 = .ok (.invokespecial 9, 3) := by decide +kernel
theorem dL_law_7 : decode cL_law 7 = .ok (.astore_n 1, 1) := by decide +kernel
theorem dL_law_8 : decode cL_law 8 = .ok (.new 10, 3) := by decide +kernel
theorem dL_law_11 : decode cL_law 11 = .ok (.dup, 1) := by decide +kernel
theorem dL_law_12 : decode cL_law 12 = .ok (.invokespecial 12, 3) := by decide +kernel
theorem dL_law_15 : decode cL_law 15 = .ok (.astore_n 2, 1) := by decide +kernel
theorem dL_law_16 : decode cL_law 16 = .ok (.iconst 0, 1) := by decide +kernel
theorem dL_law_17 : decode cL_law 17 = .ok (.istore_n 3, 1) := by decide +kernel
theorem dL_law_18 : decode cL_law 18 = .ok (.iload_n 3, 1) := by decide +kernel
theorem dL_law_19 : decode cL_law 19 = .ok (.aload_n 0, 1) := by decide +kernel
theorem dL_law_20 : decode cL_law 20 = .ok (.arraylength, 1) := by decide +kernel
theorem dL_law_21 : decode cL_law 21 = .ok (.bipush 7, 2) := by decide +kernel
theorem dL_law_23 : decode cL_law 23 = .ok (.isub, 1) := by decide +kernel
theorem dL_law_24 : decode cL_law 24 = .ok (.if_icmp .gt 1062, 3) := by decide +kernel
theorem dL_law_27 : decode cL_law 27 = .ok (.aload_n 0, 1) := by decide +kernel
theorem dL_law_28 : decode cL_law 28 = .ok (.iload_n 3, 1) := by decide +kernel
theorem dL_law_29 : decode cL_law 29 = .ok (.iaload, 1) := by decide +kernel
theorem dL_law_30 : decode cL_law 30 = .ok (.bipush 31, 2) := by decide +kernel
theorem dL_law_32 : decode cL_law 32 = .ok (.iand, 1) := by decide +kernel
theorem dL_law_33 : decode cL_law 33 = .ok (.tableswitch 1047 0 18 #[91, 150, 209, 258, 357, 416, 485, 558, 621, 654, 697, 750, 845, 878, 891, 924, 937, 970, 1033], 91) := by decide +kernel
theorem dL_law_124 : decode cL_law 124 = .ok (.aload_n 1, 1) := by decide +kernel
theorem dL_law_125 : decode cL_law 125 = .ok (.aload_n 0, 1) := by decide +kernel
theorem dL_law_126 : decode cL_law 126 = .ok (.iload_n 3, 1) := by decide +kernel
theorem dL_law_127 : decode cL_law 127 = .ok (.iconst 1, 1) := by decide +kernel
theorem dL_law_128 : decode cL_law 128 = .ok (.iadd, 1) := by decide +kernel
theorem dL_law_129 : decode cL_law 129 = .ok (.iaload, 1) := by decide +kernel
theorem dL_law_130 : decode cL_law 130 = .ok (.ifCond .eq 7, 3) := by decide +kernel
theorem dL_law_133 : decode cL_law 133 = .ok (.iconst 1, 1) := by decide +kernel
theorem dL_law_134 : decode cL_law 134 = .ok (.goto 4, 3) := by decide +kernel
theorem dL_law_137 : decode cL_law 137 = .ok (.iconst 0, 1) := by decide +kernel
theorem dL_law_138 : decode cL_law 138 = .ok (.aload_n 0, 1) := by decide +kernel
theorem dL_law_139 : decode cL_law 139 = .ok (.iload_n 3, 1) := by decide +kernel
theorem dL_law_140 : decode cL_law 140 = .ok (.iconst 2, 1) := by decide +kernel
theorem dL_law_141 : decode cL_law 141 = .ok (.iadd, 1) := by decide +kernel
theorem dL_law_142 : decode cL_law 142 = .ok (.iaload, 1) := by decide +kernel
theorem dL_law_143 : decode cL_law 143 = .ok (.aload_n 0, 1) := by decide +kernel
theorem dL_law_144 : decode cL_law 144 = .ok (.iload_n 3, 1) := by decide +kernel
theorem dL_law_145 : decode cL_law 145 = .ok (.iconst 3, 1) := by decide +kernel
theorem dL_law_146 : decode cL_law 146 = .ok (.iadd, 1) := by decide +kernel
theorem dL_law_147 : decode cL_law 147 = .ok (.iaload, 1) := by decide +kernel
theorem dL_law_148 : decode cL_law 148 = .ok (.invokevirtual 13, 3) := by decide +kernel
theorem dL_law_151 : decode cL_law 151 = .ok (.aload_n 2, 1) := by decide +kernel
theorem dL_law_152 : decode cL_law 152 = .ok (.aload_n 0, 1) := by decide +kernel
theorem dL_law_153 : decode cL_law 153 = .ok (.iload_n 3, 1) := by decide +kernel
theorem dL_law_154 : decode cL_law 154 = .ok (.iconst 1, 1) := by decide +kernel
theorem dL_law_155 : decode cL_law 155 = .ok (.iadd, 1) := by decide +kernel
theorem dL_law_156 : decode cL_law 156 = .ok (.iaload, 1) := by decide +kernel
theorem dL_law_157 : decode cL_law 157 = .ok (.ifCond .eq 7, 3) := by decide +kernel
theorem dL_law_160 : decode cL_law 160 = .ok (.iconst 1, 1) := by decide +kernel
theorem dL_law_161 : decode cL_law 161 = .ok (.goto 4, 3) := by decide +kernel
theorem dL_law_164 : decode cL_law 164 = .ok (.iconst 0, 1) := by decide +kernel
theorem dL_law_165 : decode cL_law 165 = .ok (.aload_n 0, 1) := by decide +kernel
theorem dL_law_166 : decode cL_law 166 = .ok (.iload_n 3, 1) := by decide +kernel
theorem dL_law_167 : decode cL_law 167 = .ok (.iconst 2, 1) := by decide +kernel
theorem dL_law_168 : decode cL_law 168 = .ok (.iadd, 1) := by decide +kernel
theorem dL_law_169 : decode cL_law 169 = .ok (.iaload, 1) := by decide +kernel
theorem dL_law_170 : decode cL_law 170 = .ok (.aload_n 0, 1) := by decide +kernel
theorem dL_law_171 : decode cL_law 171 = .ok (.iload_n 3, 1) := by decide +kernel
theorem dL_law_172 : decode cL_law 172 = .ok (.iconst 3, 1) := by decide +kernel
theorem dL_law_173 : decode cL_law 173 = .ok (.iadd, 1) := by decide +kernel
theorem dL_law_174 : decode cL_law 174 = .ok (.iaload, 1) := by decide +kernel
theorem dL_law_175 : decode cL_law 175 = .ok (.invokevirtual 17, 3) := by decide +kernel
theorem dL_law_178 : decode cL_law 178 = .ok (.if_icmp .eq 902, 3) := by decide +kernel
theorem dL_law_181 : decode cL_law 181 = .ok (.iconst 0, 1) := by decide +kernel
theorem dL_law_182 : decode cL_law 182 = .ok (.ireturn, 1) := by decide +kernel
theorem dL_law_183 : decode cL_law 183 = .ok (.aload_n 1, 1) := by decide +kernel
theorem dL_law_184 : decode cL_law 184 = .ok (.aload_n 0, 1) := by decide +kernel
theorem dL_law_185 : decode cL_law 185 = .ok (.iload_n 3, 1) := by decide +kernel
theorem dL_law_186 : decode cL_law 186 = .ok (.iconst 1, 1) := by decide +kernel
theorem dL_law_187 : decode cL_law 187 = .ok (.iadd, 1) := by decide +kernel
theorem dL_law_188 : decode cL_law 188 = .ok (.iaload, 1) := by decide +kernel
theorem dL_law_189 : decode cL_law 189 = .ok (.ifCond .eq 7, 3) := by decide +kernel
theorem dL_law_192 : decode cL_law 192 = .ok (.iconst 1, 1) := by decide +kernel
theorem dL_law_193 : decode cL_law 193 = .ok (.goto 4, 3) := by decide +kernel
theorem dL_law_196 : decode cL_law 196 = .ok (.iconst 0, 1) := by decide +kernel
theorem dL_law_197 : decode cL_law 197 = .ok (.aload_n 0, 1) := by decide +kernel
theorem dL_law_198 : decode cL_law 198 = .ok (.iload_n 3, 1) := by decide +kernel
theorem dL_law_199 : decode cL_law 199 = .ok (.iconst 2, 1) := by decide +kernel
theorem dL_law_200 : decode cL_law 200 = .ok (.iadd, 1) := by decide +kernel
theorem dL_law_201 : decode cL_law 201 = .ok (.iaload, 1) := by decide +kernel
theorem dL_law_202 : decode cL_law 202 = .ok (.aload_n 0, 1) := by decide +kernel
theorem dL_law_203 : decode cL_law 203 = .ok (.iload_n 3, 1) := by decide +kernel
theorem dL_law_204 : decode cL_law 204 = .ok (.iconst 3, 1) := by decide +kernel
theorem dL_law_205 : decode cL_law 205 = .ok (.iadd, 1) := by decide +kernel
theorem dL_law_206 : decode cL_law 206 = .ok (.iaload, 1) := by decide +kernel
theorem dL_law_207 : decode cL_law 207 = .ok (.invokevirtual 18, 3) := by decide +kernel
theorem dL_law_210 : decode cL_law 210 = .ok (.aload_n 2, 1) := by decide +kernel
theorem dL_law_211 : decode cL_law 211 = .ok (.aload_n 0, 1) := by decide +kernel
theorem dL_law_212 : decode cL_law 212 = .ok (.iload_n 3, 1) := by decide +kernel
theorem dL_law_213 : decode cL_law 213 = .ok (.iconst 1, 1) := by decide +kernel
theorem dL_law_214 : decode cL_law 214 = .ok (.iadd, 1) := by decide +kernel
theorem dL_law_215 : decode cL_law 215 = .ok (.iaload, 1) := by decide +kernel
theorem dL_law_216 : decode cL_law 216 = .ok (.ifCond .eq 7, 3) := by decide +kernel
theorem dL_law_219 : decode cL_law 219 = .ok (.iconst 1, 1) := by decide +kernel
theorem dL_law_220 : decode cL_law 220 = .ok (.goto 4, 3) := by decide +kernel
theorem dL_law_223 : decode cL_law 223 = .ok (.iconst 0, 1) := by decide +kernel
theorem dL_law_224 : decode cL_law 224 = .ok (.aload_n 0, 1) := by decide +kernel
theorem dL_law_225 : decode cL_law 225 = .ok (.iload_n 3, 1) := by decide +kernel
theorem dL_law_226 : decode cL_law 226 = .ok (.iconst 2, 1) := by decide +kernel
theorem dL_law_227 : decode cL_law 227 = .ok (.iadd, 1) := by decide +kernel
theorem dL_law_228 : decode cL_law 228 = .ok (.iaload, 1) := by decide +kernel
theorem dL_law_229 : decode cL_law 229 = .ok (.aload_n 0, 1) := by decide +kernel
theorem dL_law_230 : decode cL_law 230 = .ok (.iload_n 3, 1) := by decide +kernel
theorem dL_law_231 : decode cL_law 231 = .ok (.iconst 3, 1) := by decide +kernel
theorem dL_law_232 : decode cL_law 232 = .ok (.iadd, 1) := by decide +kernel
theorem dL_law_233 : decode cL_law 233 = .ok (.iaload, 1) := by decide +kernel
theorem dL_law_234 : decode cL_law 234 = .ok (.invokevirtual 21, 3) := by decide +kernel
theorem dL_law_237 : decode cL_law 237 = .ok (.if_icmp .eq 843, 3) := by decide +kernel
theorem dL_law_240 : decode cL_law 240 = .ok (.iconst 0, 1) := by decide +kernel
theorem dL_law_241 : decode cL_law 241 = .ok (.ireturn, 1) := by decide +kernel
theorem dL_law_242 : decode cL_law 242 = .ok (.aload_n 1, 1) := by decide +kernel
theorem dL_law_243 : decode cL_law 243 = .ok (.aload_n 0, 1) := by decide +kernel
theorem dL_law_244 : decode cL_law 244 = .ok (.iload_n 3, 1) := by decide +kernel
theorem dL_law_245 : decode cL_law 245 = .ok (.iconst 1, 1) := by decide +kernel
theorem dL_law_246 : decode cL_law 246 = .ok (.iadd, 1) := by decide +kernel
theorem dL_law_247 : decode cL_law 247 = .ok (.iaload, 1) := by decide +kernel
theorem dL_law_248 : decode cL_law 248 = .ok (.ifCond .eq 7, 3) := by decide +kernel
theorem dL_law_251 : decode cL_law 251 = .ok (.iconst 1, 1) := by decide +kernel
theorem dL_law_252 : decode cL_law 252 = .ok (.goto 4, 3) := by decide +kernel
theorem dL_law_255 : decode cL_law 255 = .ok (.iconst 0, 1) := by decide +kernel
theorem dL_law_256 : decode cL_law 256 = .ok (.aload_n 0, 1) := by decide +kernel
theorem dL_law_257 : decode cL_law 257 = .ok (.iload_n 3, 1) := by decide +kernel
theorem dL_law_258 : decode cL_law 258 = .ok (.iconst 2, 1) := by decide +kernel
theorem dL_law_259 : decode cL_law 259 = .ok (.iadd, 1) := by decide +kernel
theorem dL_law_260 : decode cL_law 260 = .ok (.iaload, 1) := by decide +kernel
theorem dL_law_261 : decode cL_law 261 = .ok (.invokevirtual 22, 3) := by decide +kernel
theorem dL_law_264 : decode cL_law 264 = .ok (.aload_n 2, 1) := by decide +kernel
theorem dL_law_265 : decode cL_law 265 = .ok (.aload_n 0, 1) := by decide +kernel
theorem dL_law_266 : decode cL_law 266 = .ok (.iload_n 3, 1) := by decide +kernel
theorem dL_law_267 : decode cL_law 267 = .ok (.iconst 1, 1) := by decide +kernel
theorem dL_law_268 : decode cL_law 268 = .ok (.iadd, 1) := by decide +kernel
theorem dL_law_269 : decode cL_law 269 = .ok (.iaload, 1) := by decide +kernel
theorem dL_law_270 : decode cL_law 270 = .ok (.ifCond .eq 7, 3) := by decide +kernel
theorem dL_law_273 : decode cL_law 273 = .ok (.iconst 1, 1) := by decide +kernel
theorem dL_law_274 : decode cL_law 274 = .ok (.goto 4, 3) := by decide +kernel
theorem dL_law_277 : decode cL_law 277 = .ok (.iconst 0, 1) := by decide +kernel
theorem dL_law_278 : decode cL_law 278 = .ok (.aload_n 0, 1) := by decide +kernel
theorem dL_law_279 : decode cL_law 279 = .ok (.iload_n 3, 1) := by decide +kernel
theorem dL_law_280 : decode cL_law 280 = .ok (.iconst 2, 1) := by decide +kernel
theorem dL_law_281 : decode cL_law 281 = .ok (.iadd, 1) := by decide +kernel
theorem dL_law_282 : decode cL_law 282 = .ok (.iaload, 1) := by decide +kernel
theorem dL_law_283 : decode cL_law 283 = .ok (.invokevirtual 26, 3) := by decide +kernel
theorem dL_law_286 : decode cL_law 286 = .ok (.if_icmp .eq 794, 3) := by decide +kernel
theorem dL_law_289 : decode cL_law 289 = .ok (.iconst 0, 1) := by decide +kernel
theorem dL_law_290 : decode cL_law 290 = .ok (.ireturn, 1) := by decide +kernel
theorem dL_law_291 : decode cL_law 291 = .ok (.aload_n 1, 1) := by decide +kernel
theorem dL_law_292 : decode cL_law 292 = .ok (.aload_n 0, 1) := by decide +kernel
theorem dL_law_293 : decode cL_law 293 = .ok (.iload_n 3, 1) := by decide +kernel
theorem dL_law_294 : decode cL_law 294 = .ok (.iconst 1, 1) := by decide +kernel
theorem dL_law_295 : decode cL_law 295 = .ok (.iadd, 1) := by decide +kernel
theorem dL_law_296 : decode cL_law 296 = .ok (.iaload, 1) := by decide +kernel
theorem dL_law_297 : decode cL_law 297 = .ok (.ifCond .eq 7, 3) := by decide +kernel
theorem dL_law_300 : decode cL_law 300 = .ok (.iconst 1, 1) := by decide +kernel
theorem dL_law_301 : decode cL_law 301 = .ok (.goto 4, 3) := by decide +kernel
theorem dL_law_304 : decode cL_law 304 = .ok (.iconst 0, 1) := by decide +kernel
theorem dL_law_305 : decode cL_law 305 = .ok (.aload_n 0, 1) := by decide +kernel
theorem dL_law_306 : decode cL_law 306 = .ok (.iload_n 3, 1) := by decide +kernel
theorem dL_law_307 : decode cL_law 307 = .ok (.iconst 2, 1) := by decide +kernel
theorem dL_law_308 : decode cL_law 308 = .ok (.iadd, 1) := by decide +kernel
theorem dL_law_309 : decode cL_law 309 = .ok (.iaload, 1) := by decide +kernel
theorem dL_law_310 : decode cL_law 310 = .ok (.aload_n 0, 1) := by decide +kernel
theorem dL_law_311 : decode cL_law 311 = .ok (.iload_n 3, 1) := by decide +kernel
theorem dL_law_312 : decode cL_law 312 = .ok (.iconst 3, 1) := by decide +kernel
theorem dL_law_313 : decode cL_law 313 = .ok (.iadd, 1) := by decide +kernel
theorem dL_law_314 : decode cL_law 314 = .ok (.iaload, 1) := by decide +kernel
theorem dL_law_315 : decode cL_law 315 = .ok (.aload_n 0, 1) := by decide +kernel
theorem dL_law_316 : decode cL_law 316 = .ok (.iload_n 3, 1) := by decide +kernel
theorem dL_law_317 : decode cL_law 317 = .ok (.iconst 4, 1) := by decide +kernel
theorem dL_law_318 : decode cL_law 318 = .ok (.iadd, 1) := by decide +kernel
theorem dL_law_319 : decode cL_law 319 = .ok (.iaload, 1) := by decide +kernel
theorem dL_law_320 : decode cL_law 320 = .ok (.i2l, 1) := by decide +kernel
theorem dL_law_321 : decode cL_law 321 = .ok (.bipush 32, 2) := by decide +kernel
theorem dL_law_323 : decode cL_law 323 = .ok (.lshl, 1) := by decide +kernel
theorem dL_law_324 : decode cL_law 324 = .ok (.aload_n 0, 1) := by decide +kernel
theorem dL_law_325 : decode cL_law 325 = .ok (.iload_n 3, 1) := by decide +kernel
theorem dL_law_326 : decode cL_law 326 = .ok (.iconst 5, 1) := by decide +kernel
theorem dL_law_327 : decode cL_law 327 = .ok (.iadd, 1) := by decide +kernel
theorem dL_law_328 : decode cL_law 328 = .ok (.iaload, 1) := by decide +kernel
theorem dL_law_329 : decode cL_law 329 = .ok (.i2l, 1) := by decide +kernel
theorem dL_law_330 : decode cL_law 330 = .ok (.ldc2_w 27, 3) := by decide +kernel
theorem dL_law_333 : decode cL_law 333 = .ok (.land, 1) := by decide +kernel
theorem dL_law_334 : decode cL_law 334 = .ok (.lor, 1) := by decide +kernel
theorem dL_law_335 : decode cL_law 335 = .ok (.invokevirtual 29, 3) := by decide +kernel
theorem dL_law_338 : decode cL_law 338 = .ok (.aload_n 2, 1) := by decide +kernel
theorem dL_law_339 : decode cL_law 339 = .ok (.aload_n 0, 1) := by decide +kernel
theorem dL_law_340 : decode cL_law 340 = .ok (.iload_n 3, 1) := by decide +kernel
theorem dL_law_341 : decode cL_law 341 = .ok (.iconst 1, 1) := by decide +kernel
theorem dL_law_342 : decode cL_law 342 = .ok (.iadd, 1) := by decide +kernel
theorem dL_law_343 : decode cL_law 343 = .ok (.iaload, 1) := by decide +kernel
theorem dL_law_344 : decode cL_law 344 = .ok (.ifCond .eq 7, 3) := by decide +kernel
theorem dL_law_347 : decode cL_law 347 = .ok (.iconst 1, 1) := by decide +kernel
theorem dL_law_348 : decode cL_law 348 = .ok (.goto 4, 3) := by decide +kernel
theorem dL_law_351 : decode cL_law 351 = .ok (.iconst 0, 1) := by decide +kernel
theorem dL_law_352 : decode cL_law 352 = .ok (.aload_n 0, 1) := by decide +kernel
theorem dL_law_353 : decode cL_law 353 = .ok (.iload_n 3, 1) := by decide +kernel
theorem dL_law_354 : decode cL_law 354 = .ok (.iconst 2, 1) := by decide +kernel
theorem dL_law_355 : decode cL_law 355 = .ok (.iadd, 1) := by decide +kernel
theorem dL_law_356 : decode cL_law 356 = .ok (.iaload, 1) := by decide +kernel
theorem dL_law_357 : decode cL_law 357 = .ok (.aload_n 0, 1) := by decide +kernel
theorem dL_law_358 : decode cL_law 358 = .ok (.iload_n 3, 1) := by decide +kernel
theorem dL_law_359 : decode cL_law 359 = .ok (.iconst 3, 1) := by decide +kernel
theorem dL_law_360 : decode cL_law 360 = .ok (.iadd, 1) := by decide +kernel
theorem dL_law_361 : decode cL_law 361 = .ok (.iaload, 1) := by decide +kernel
theorem dL_law_362 : decode cL_law 362 = .ok (.aload_n 0, 1) := by decide +kernel
theorem dL_law_363 : decode cL_law 363 = .ok (.iload_n 3, 1) := by decide +kernel
theorem dL_law_364 : decode cL_law 364 = .ok (.iconst 4, 1) := by decide +kernel
theorem dL_law_365 : decode cL_law 365 = .ok (.iadd, 1) := by decide +kernel
theorem dL_law_366 : decode cL_law 366 = .ok (.iaload, 1) := by decide +kernel
theorem dL_law_367 : decode cL_law 367 = .ok (.i2l, 1) := by decide +kernel
theorem dL_law_368 : decode cL_law 368 = .ok (.bipush 32, 2) := by decide +kernel
theorem dL_law_370 : decode cL_law 370 = .ok (.lshl, 1) := by decide +kernel
theorem dL_law_371 : decode cL_law 371 = .ok (.aload_n 0, 1) := by decide +kernel
theorem dL_law_372 : decode cL_law 372 = .ok (.iload_n 3, 1) := by decide +kernel
theorem dL_law_373 : decode cL_law 373 = .ok (.iconst 5, 1) := by decide +kernel
theorem dL_law_374 : decode cL_law 374 = .ok (.iadd, 1) := by decide +kernel
theorem dL_law_375 : decode cL_law 375 = .ok (.iaload, 1) := by decide +kernel
theorem dL_law_376 : decode cL_law 376 = .ok (.i2l, 1) := by decide +kernel
theorem dL_law_377 : decode cL_law 377 = .ok (.ldc2_w 27, 3) := by decide +kernel
theorem dL_law_380 : decode cL_law 380 = .ok (.land, 1) := by decide +kernel
theorem dL_law_381 : decode cL_law 381 = .ok (.lor, 1) := by decide +kernel
theorem dL_law_382 : decode cL_law 382 = .ok (.invokevirtual 33, 3) := by decide +kernel
theorem dL_law_385 : decode cL_law 385 = .ok (.if_icmp .eq 695, 3) := by decide +kernel
theorem dL_law_388 : decode cL_law 388 = .ok (.iconst 0, 1) := by decide +kernel
theorem dL_law_389 : decode cL_law 389 = .ok (.ireturn, 1) := by decide +kernel
theorem dL_law_390 : decode cL_law 390 = .ok (.aload_n 1, 1) := by decide +kernel
theorem dL_law_391 : decode cL_law 391 = .ok (.aload_n 0, 1) := by decide +kernel
theorem dL_law_392 : decode cL_law 392 = .ok (.iload_n 3, 1) := by decide +kernel
theorem dL_law_393 : decode cL_law 393 = .ok (.iconst 1, 1) := by decide +kernel
theorem dL_law_394 : decode cL_law 394 = .ok (.iadd, 1) := by decide +kernel
theorem dL_law_395 : decode cL_law 395 = .ok (.iaload, 1) := by decide +kernel
theorem dL_law_396 : decode cL_law 396 = .ok (.ifCond .eq 7, 3) := by decide +kernel
theorem dL_law_399 : decode cL_law 399 = .ok (.iconst 1, 1) := by decide +kernel
theorem dL_law_400 : decode cL_law 400 = .ok (.goto 4, 3) := by decide +kernel
theorem dL_law_403 : decode cL_law 403 = .ok (.iconst 0, 1) := by decide +kernel
theorem dL_law_404 : decode cL_law 404 = .ok (.aload_n 0, 1) := by decide +kernel
theorem dL_law_405 : decode cL_law 405 = .ok (.iload_n 3, 1) := by decide +kernel
theorem dL_law_406 : decode cL_law 406 = .ok (.iconst 2, 1) := by decide +kernel
theorem dL_law_407 : decode cL_law 407 = .ok (.iadd, 1) := by decide +kernel
theorem dL_law_408 : decode cL_law 408 = .ok (.iaload, 1) := by decide +kernel
theorem dL_law_409 : decode cL_law 409 = .ok (.aload_n 0, 1) := by decide +kernel
theorem dL_law_410 : decode cL_law 410 = .ok (.iload_n 3, 1) := by decide +kernel
theorem dL_law_411 : decode cL_law 411 = .ok (.iconst 3, 1) := by decide +kernel
theorem dL_law_412 : decode cL_law 412 = .ok (.iadd, 1) := by decide +kernel
theorem dL_law_413 : decode cL_law 413 = .ok (.iaload, 1) := by decide +kernel
theorem dL_law_414 : decode cL_law 414 = .ok (.invokevirtual 34, 3) := by decide +kernel
theorem dL_law_417 : decode cL_law 417 = .ok (.aload_n 2, 1) := by decide +kernel
theorem dL_law_418 : decode cL_law 418 = .ok (.aload_n 0, 1) := by decide +kernel
theorem dL_law_419 : decode cL_law 419 = .ok (.iload_n 3, 1) := by decide +kernel
theorem dL_law_420 : decode cL_law 420 = .ok (.iconst 1, 1) := by decide +kernel
theorem dL_law_421 : decode cL_law 421 = .ok (.iadd, 1) := by decide +kernel
theorem dL_law_422 : decode cL_law 422 = .ok (.iaload, 1) := by decide +kernel
theorem dL_law_423 : decode cL_law 423 = .ok (.ifCond .eq 7, 3) := by decide +kernel
theorem dL_law_426 : decode cL_law 426 = .ok (.iconst 1, 1) := by decide +kernel
theorem dL_law_427 : decode cL_law 427 = .ok (.goto 4, 3) := by decide +kernel
theorem dL_law_430 : decode cL_law 430 = .ok (.iconst 0, 1) := by decide +kernel
theorem dL_law_431 : decode cL_law 431 = .ok (.aload_n 0, 1) := by decide +kernel
theorem dL_law_432 : decode cL_law 432 = .ok (.iload_n 3, 1) := by decide +kernel
theorem dL_law_433 : decode cL_law 433 = .ok (.iconst 2, 1) := by decide +kernel
theorem dL_law_434 : decode cL_law 434 = .ok (.iadd, 1) := by decide +kernel
theorem dL_law_435 : decode cL_law 435 = .ok (.iaload, 1) := by decide +kernel
theorem dL_law_436 : decode cL_law 436 = .ok (.aload_n 0, 1) := by decide +kernel
theorem dL_law_437 : decode cL_law 437 = .ok (.iload_n 3, 1) := by decide +kernel
theorem dL_law_438 : decode cL_law 438 = .ok (.iconst 3, 1) := by decide +kernel
theorem dL_law_439 : decode cL_law 439 = .ok (.iadd, 1) := by decide +kernel
theorem dL_law_440 : decode cL_law 440 = .ok (.iaload, 1) := by decide +kernel
theorem dL_law_441 : decode cL_law 441 = .ok (.invokevirtual 37, 3) := by decide +kernel
theorem dL_law_444 : decode cL_law 444 = .ok (.if_icmp .eq 636, 3) := by decide +kernel
theorem dL_law_447 : decode cL_law 447 = .ok (.iconst 0, 1) := by decide +kernel
theorem dL_law_448 : decode cL_law 448 = .ok (.ireturn, 1) := by decide +kernel
theorem dL_law_449 : decode cL_law 449 = .ok (.aload_n 1, 1) := by decide +kernel
theorem dL_law_450 : decode cL_law 450 = .ok (.aload_n 0, 1) := by decide +kernel
theorem dL_law_451 : decode cL_law 451 = .ok (.iload_n 3, 1) := by decide +kernel
theorem dL_law_452 : decode cL_law 452 = .ok (.iconst 1, 1) := by decide +kernel
theorem dL_law_453 : decode cL_law 453 = .ok (.iadd, 1) := by decide +kernel
theorem dL_law_454 : decode cL_law 454 = .ok (.iaload, 1) := by decide +kernel
theorem dL_law_455 : decode cL_law 455 = .ok (.ifCond .eq 7, 3) := by decide +kernel
theorem dL_law_458 : decode cL_law 458 = .ok (.iconst 1, 1) := by decide +kernel
theorem dL_law_459 : decode cL_law 459 = .ok (.goto 4, 3) := by decide +kernel
theorem dL_law_462 : decode cL_law 462 = .ok (.iconst 0, 1) := by decide +kernel
theorem dL_law_463 : decode cL_law 463 = .ok (.aload_n 0, 1) := by decide +kernel
theorem dL_law_464 : decode cL_law 464 = .ok (.iload_n 3, 1) := by decide +kernel
theorem dL_law_465 : decode cL_law 465 = .ok (.iconst 2, 1) := by decide +kernel
theorem dL_law_466 : decode cL_law 466 = .ok (.iadd, 1) := by decide +kernel
theorem dL_law_467 : decode cL_law 467 = .ok (.iaload, 1) := by decide +kernel
theorem dL_law_468 : decode cL_law 468 = .ok (.aload_n 0, 1) := by decide +kernel
theorem dL_law_469 : decode cL_law 469 = .ok (.iload_n 3, 1) := by decide +kernel
theorem dL_law_470 : decode cL_law 470 = .ok (.iconst 3, 1) := by decide +kernel
theorem dL_law_471 : decode cL_law 471 = .ok (.iadd, 1) := by decide +kernel
theorem dL_law_472 : decode cL_law 472 = .ok (.iaload, 1) := by decide +kernel
theorem dL_law_473 : decode cL_law 473 = .ok (.aload_n 0, 1) := by decide +kernel
theorem dL_law_474 : decode cL_law 474 = .ok (.iload_n 3, 1) := by decide +kernel
theorem dL_law_475 : decode cL_law 475 = .ok (.iconst 4, 1) := by decide +kernel
theorem dL_law_476 : decode cL_law 476 = .ok (.iadd, 1) := by decide +kernel
theorem dL_law_477 : decode cL_law 477 = .ok (.iaload, 1) := by decide +kernel
theorem dL_law_478 : decode cL_law 478 = .ok (.invokevirtual 38, 3) := by decide +kernel
theorem dL_law_481 : decode cL_law 481 = .ok (.aload_n 2, 1) := by decide +kernel
theorem dL_law_482 : decode cL_law 482 = .ok (.aload_n 0, 1) := by decide +kernel
theorem dL_law_483 : decode cL_law 483 = .ok (.iload_n 3, 1) := by decide +kernel
theorem dL_law_484 : decode cL_law 484 = .ok (.iconst 1, 1) := by decide +kernel
theorem dL_law_485 : decode cL_law 485 = .ok (.iadd, 1) := by decide +kernel
theorem dL_law_486 : decode cL_law 486 = .ok (.iaload, 1) := by decide +kernel
theorem dL_law_487 : decode cL_law 487 = .ok (.ifCond .eq 7, 3) := by decide +kernel
theorem dL_law_490 : decode cL_law 490 = .ok (.iconst 1, 1) := by decide +kernel
theorem dL_law_491 : decode cL_law 491 = .ok (.goto 4, 3) := by decide +kernel
theorem dL_law_494 : decode cL_law 494 = .ok (.iconst 0, 1) := by decide +kernel
theorem dL_law_495 : decode cL_law 495 = .ok (.aload_n 0, 1) := by decide +kernel
theorem dL_law_496 : decode cL_law 496 = .ok (.iload_n 3, 1) := by decide +kernel
theorem dL_law_497 : decode cL_law 497 = .ok (.iconst 2, 1) := by decide +kernel
theorem dL_law_498 : decode cL_law 498 = .ok (.iadd, 1) := by decide +kernel
theorem dL_law_499 : decode cL_law 499 = .ok (.iaload, 1) := by decide +kernel
theorem dL_law_500 : decode cL_law 500 = .ok (.aload_n 0, 1) := by decide +kernel
theorem dL_law_501 : decode cL_law 501 = .ok (.iload_n 3, 1) := by decide +kernel
theorem dL_law_502 : decode cL_law 502 = .ok (.iconst 3, 1) := by decide +kernel
theorem dL_law_503 : decode cL_law 503 = .ok (.iadd, 1) := by decide +kernel
theorem dL_law_504 : decode cL_law 504 = .ok (.iaload, 1) := by decide +kernel
theorem dL_law_505 : decode cL_law 505 = .ok (.aload_n 0, 1) := by decide +kernel
theorem dL_law_506 : decode cL_law 506 = .ok (.iload_n 3, 1) := by decide +kernel
theorem dL_law_507 : decode cL_law 507 = .ok (.iconst 4, 1) := by decide +kernel
theorem dL_law_508 : decode cL_law 508 = .ok (.iadd, 1) := by decide +kernel
theorem dL_law_509 : decode cL_law 509 = .ok (.iaload, 1) := by decide +kernel
theorem dL_law_510 : decode cL_law 510 = .ok (.invokevirtual 42, 3) := by decide +kernel
theorem dL_law_513 : decode cL_law 513 = .ok (.if_icmp .eq 567, 3) := by decide +kernel
theorem dL_law_516 : decode cL_law 516 = .ok (.iconst 0, 1) := by decide +kernel
theorem dL_law_517 : decode cL_law 517 = .ok (.ireturn, 1) := by decide +kernel
theorem dL_law_518 : decode cL_law 518 = .ok (.aload_n 1, 1) := by decide +kernel
theorem dL_law_519 : decode cL_law 519 = .ok (.aload_n 0, 1) := by decide +kernel
theorem dL_law_520 : decode cL_law 520 = .ok (.iload_n 3, 1) := by decide +kernel
theorem dL_law_521 : decode cL_law 521 = .ok (.iconst 1, 1) := by decide +kernel
theorem dL_law_522 : decode cL_law 522 = .ok (.iadd, 1) := by decide +kernel
theorem dL_law_523 : decode cL_law 523 = .ok (.iaload, 1) := by decide +kernel
theorem dL_law_524 : decode cL_law 524 = .ok (.aload_n 0, 1) := by decide +kernel
theorem dL_law_525 : decode cL_law 525 = .ok (.iload_n 3, 1) := by decide +kernel
theorem dL_law_526 : decode cL_law 526 = .ok (.iconst 2, 1) := by decide +kernel
theorem dL_law_527 : decode cL_law 527 = .ok (.iadd, 1) := by decide +kernel
theorem dL_law_528 : decode cL_law 528 = .ok (.iaload, 1) := by decide +kernel
theorem dL_law_529 : decode cL_law 529 = .ok (.aload_n 0, 1) := by decide +kernel
theorem dL_law_530 : decode cL_law 530 = .ok (.iload_n 3, 1) := by decide +kernel
theorem dL_law_531 : decode cL_law 531 = .ok (.iconst 3, 1) := by decide +kernel
theorem dL_law_532 : decode cL_law 532 = .ok (.iadd, 1) := by decide +kernel
theorem dL_law_533 : decode cL_law 533 = .ok (.iaload, 1) := by decide +kernel
theorem dL_law_534 : decode cL_law 534 = .ok (.i2l, 1) := by decide +kernel
theorem dL_law_535 : decode cL_law 535 = .ok (.bipush 32, 2) := by decide +kernel
theorem dL_law_537 : decode cL_law 537 = .ok (.lshl, 1) := by decide +kernel
theorem dL_law_538 : decode cL_law 538 = .ok (.aload_n 0, 1) := by decide +kernel
theorem dL_law_539 : decode cL_law 539 = .ok (.iload_n 3, 1) := by decide +kernel
theorem dL_law_540 : decode cL_law 540 = .ok (.iconst 4, 1) := by decide +kernel
theorem dL_law_541 : decode cL_law 541 = .ok (.iadd, 1) := by decide +kernel
theorem dL_law_542 : decode cL_law 542 = .ok (.iaload, 1) := by decide +kernel
theorem dL_law_543 : decode cL_law 543 = .ok (.i2l, 1) := by decide +kernel
theorem dL_law_544 : decode cL_law 544 = .ok (.ldc2_w 27, 3) := by decide +kernel
theorem dL_law_547 : decode cL_law 547 = .ok (.land, 1) := by decide +kernel
theorem dL_law_548 : decode cL_law 548 = .ok (.lor, 1) := by decide +kernel
theorem dL_law_549 : decode cL_law 549 = .ok (.invokevirtual 43, 3) := by decide +kernel
theorem dL_law_552 : decode cL_law 552 = .ok (.aload_n 2, 1) := by decide +kernel
theorem dL_law_553 : decode cL_law 553 = .ok (.aload_n 0, 1) := by decide +kernel
theorem dL_law_554 : decode cL_law 554 = .ok (.iload_n 3, 1) := by decide +kernel
theorem dL_law_555 : decode cL_law 555 = .ok (.iconst 1, 1) := by decide +kernel
theorem dL_law_556 : decode cL_law 556 = .ok (.iadd, 1) := by decide +kernel
theorem dL_law_557 : decode cL_law 557 = .ok (.iaload, 1) := by decide +kernel
theorem dL_law_558 : decode cL_law 558 = .ok (.aload_n 0, 1) := by decide +kernel
theorem dL_law_559 : decode cL_law 559 = .ok (.iload_n 3, 1) := by decide +kernel
theorem dL_law_560 : decode cL_law 560 = .ok (.iconst 2, 1) := by decide +kernel
theorem dL_law_561 : decode cL_law 561 = .ok (.iadd, 1) := by decide +kernel
theorem dL_law_562 : decode cL_law 562 = .ok (.iaload, 1) := by decide +kernel
theorem dL_law_563 : decode cL_law 563 = .ok (.aload_n 0, 1) := by decide +kernel
theorem dL_law_564 : decode cL_law 564 = .ok (.iload_n 3, 1) := by decide +kernel
theorem dL_law_565 : decode cL_law 565 = .ok (.iconst 3, 1) := by decide +kernel
theorem dL_law_566 : decode cL_law 566 = .ok (.iadd, 1) := by decide +kernel
theorem dL_law_567 : decode cL_law 567 = .ok (.iaload, 1) := by decide +kernel
theorem dL_law_568 : decode cL_law 568 = .ok (.i2l, 1) := by decide +kernel
theorem dL_law_569 : decode cL_law 569 = .ok (.bipush 32, 2) := by decide +kernel
theorem dL_law_571 : decode cL_law 571 = .ok (.lshl, 1) := by decide +kernel
theorem dL_law_572 : decode cL_law 572 = .ok (.aload_n 0, 1) := by decide +kernel
theorem dL_law_573 : decode cL_law 573 = .ok (.iload_n 3, 1) := by decide +kernel
theorem dL_law_574 : decode cL_law 574 = .ok (.iconst 4, 1) := by decide +kernel
theorem dL_law_575 : decode cL_law 575 = .ok (.iadd, 1) := by decide +kernel
theorem dL_law_576 : decode cL_law 576 = .ok (.iaload, 1) := by decide +kernel
theorem dL_law_577 : decode cL_law 577 = .ok (.i2l, 1) := by decide +kernel
theorem dL_law_578 : decode cL_law 578 = .ok (.ldc2_w 27, 3) := by decide +kernel
theorem dL_law_581 : decode cL_law 581 = .ok (.land, 1) := by decide +kernel
theorem dL_law_582 : decode cL_law 582 = .ok (.lor, 1) := by decide +kernel
theorem dL_law_583 : decode cL_law 583 = .ok (.invokevirtual 47, 3) := by decide +kernel
theorem dL_law_586 : decode cL_law 586 = .ok (.if_icmp .eq 494, 3) := by decide +kernel
theorem dL_law_589 : decode cL_law 589 = .ok (.iconst 0, 1) := by decide +kernel
theorem dL_law_590 : decode cL_law 590 = .ok (.ireturn, 1) := by decide +kernel
theorem dL_law_591 : decode cL_law 591 = .ok (.aload_n 1, 1) := by decide +kernel
theorem dL_law_592 : decode cL_law 592 = .ok (.aload_n 0, 1) := by decide +kernel
theorem dL_law_593 : decode cL_law 593 = .ok (.iload_n 3, 1) := by decide +kernel
theorem dL_law_594 : decode cL_law 594 = .ok (.iconst 1, 1) := by decide +kernel
theorem dL_law_595 : decode cL_law 595 = .ok (.iadd, 1) := by decide +kernel
theorem dL_law_596 : decode cL_law 596 = .ok (.iaload, 1) := by decide +kernel
theorem dL_law_597 : decode cL_law 597 = .ok (.aload_n 0, 1) := by decide +kernel
theorem dL_law_598 : decode cL_law 598 = .ok (.iload_n 3, 1) := by decide +kernel
theorem dL_law_599 : decode cL_law 599 = .ok (.iconst 2, 1) := by decide +kernel
theorem dL_law_600 : decode cL_law 600 = .ok (.iadd, 1) := by decide +kernel
theorem dL_law_601 : decode cL_law 601 = .ok (.iaload, 1) := by decide +kernel
theorem dL_law_602 : decode cL_law 602 = .ok (.i2l, 1) := by decide +kernel
theorem dL_law_603 : decode cL_law 603 = .ok (.bipush 32, 2) := by decide +kernel
theorem dL_law_605 : decode cL_law 605 = .ok (.lshl, 1) := by decide +kernel
theorem dL_law_606 : decode cL_law 606 = .ok (.aload_n 0, 1) := by decide +kernel
theorem dL_law_607 : decode cL_law 607 = .ok (.iload_n 3, 1) := by decide +kernel
theorem dL_law_608 : decode cL_law 608 = .ok (.iconst 3, 1) := by decide +kernel
theorem dL_law_609 : decode cL_law 609 = .ok (.iadd, 1) := by decide +kernel
theorem dL_law_610 : decode cL_law 610 = .ok (.iaload, 1) := by decide +kernel
theorem dL_law_611 : decode cL_law 611 = .ok (.i2l, 1) := by decide +kernel
theorem dL_law_612 : decode cL_law 612 = .ok (.ldc2_w 27, 3) := by decide +kernel
theorem dL_law_615 : decode cL_law 615 = .ok (.land, 1) := by decide +kernel
theorem dL_law_616 : decode cL_law 616 = .ok (.lor, 1) := by decide +kernel
theorem dL_law_617 : decode cL_law 617 = .ok (.invokevirtual 48, 3) := by decide +kernel
theorem dL_law_620 : decode cL_law 620 = .ok (.aload_n 2, 1) := by decide +kernel
theorem dL_law_621 : decode cL_law 621 = .ok (.aload_n 0, 1) := by decide +kernel
theorem dL_law_622 : decode cL_law 622 = .ok (.iload_n 3, 1) := by decide +kernel
theorem dL_law_623 : decode cL_law 623 = .ok (.iconst 1, 1) := by decide +kernel
theorem dL_law_624 : decode cL_law 624 = .ok (.iadd, 1) := by decide +kernel
theorem dL_law_625 : decode cL_law 625 = .ok (.iaload, 1) := by decide +kernel
theorem dL_law_626 : decode cL_law 626 = .ok (.aload_n 0, 1) := by decide +kernel
theorem dL_law_627 : decode cL_law 627 = .ok (.iload_n 3, 1) := by decide +kernel
theorem dL_law_628 : decode cL_law 628 = .ok (.iconst 2, 1) := by decide +kernel
theorem dL_law_629 : decode cL_law 629 = .ok (.iadd, 1) := by decide +kernel
theorem dL_law_630 : decode cL_law 630 = .ok (.iaload, 1) := by decide +kernel
theorem dL_law_631 : decode cL_law 631 = .ok (.i2l, 1) := by decide +kernel
theorem dL_law_632 : decode cL_law 632 = .ok (.bipush 32, 2) := by decide +kernel
theorem dL_law_634 : decode cL_law 634 = .ok (.lshl, 1) := by decide +kernel
theorem dL_law_635 : decode cL_law 635 = .ok (.aload_n 0, 1) := by decide +kernel
