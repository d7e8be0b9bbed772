theorem dX11_row_88 : decode cX11_row 88 = .ok (.ireturn, 1) := by decide +kernel
set_option maxRecDepth 20000 in
theorem ggX11_share_X11_in : GoodIn wsX11_share wsX11_in := goodIn_r _ [5] (by decide +kernel) (by decide +kernel)
set_option maxRecDepth 20000 in
theorem gX11_share_X11_in : GoodIn wsX11_share (va_wsS RX11 93 yX11_in wsX11_in) := goodIn_app (goodIn_of _ (by decide +kernel)) ggX11_share_X11_in
set_option maxRecDepth 20000 in
theorem ggX11_share_X11_slotOf : GoodIn wsX11_share wsX11_slotOf := goodIn_r _ [8] (by decide +kernel) (by decide +kernel)
set_option maxRecDepth 20000 in
theorem gX11_share_X11_slotOf : GoodIn wsX11_share (va_wsS RX11 101 yX11_slotOf wsX11_slotOf) := goodIn_app (goodIn_of _ (by decide +kernel)) ggX11_share_X11_slotOf
theorem dX11_share_0 : decode cX11_share 0 = .ok (.iload_n 2, 1) := by decide +kernel
theorem dX11_share_1 : decode cX11_share 1 = .ok (.iconst 0, 1) := by decide +kernel
theorem dX11_share_2 : decode cX11_share 2 = .ok (.iconst 5, 1) := by decide +kernel
theorem dX11_share_3 : decode cX11_share 3 = .ok (.invokestatic 93, 3) := by decide +kernel
theorem dX11_share_6 : decode cX11_share 6 = .ok (.ifCond .eq 12, 3) := by decide +kernel
theorem dX11_share_9 : decode cX11_share 9 = .ok (.iload_n 3, 1) := by decide +kernel
theorem dX11_share_10 : decode cX11_share 10 = .ok (.iconst 0, 1) := by decide +kernel
theorem dX11_share_11 : decode cX11_share 11 = .ok (.iconst 5, 1) := by decide +kernel
theorem dX11_share_12 : decode cX11_share 12 = .ok (.invokestatic 93, 3) := by decide +kernel
theorem dX11_share_15 : decode cX11_share 15 = .ok (.ifCond .ne 5, 3) := by decide +kernel
theorem dX11_share_18 : decode cX11_share 18 = .ok (.iconst (-1), 1) := by decide +kernel
theorem dX11_share_19 : decode cX11_share 19 = .ok (.ireturn, 1) := by decide +kernel
theorem dX11_share_20 : decode cX11_share 20 = .ok (.aload_n 0, 1) := by decide +kernel
theorem dX11_share_21 : decode cX11_share 21 = .ok (.getfield 19, 3) := by decide +kernel
theorem dX11_share_24 : decode cX11_share 24 = .ok (.iload_n 1, 1) := by decide +kernel
theorem dX11_share_25 : decode cX11_share 25 = .ok (.iload_n 3, 1) := by decide +kernel
theorem dX11_share_26 : decode cX11_share 26 = .ok (.invokestatic 101, 3) := by decide +kernel
theorem dX11_share_29 : decode cX11_share 29 = .ok (.aload_n 0, 1) := by decide +kernel
theorem dX11_share_30 : decode cX11_share 30 = .ok (.getfield 19, 3) := by decide +kernel
theorem dX11_share_33 : decode cX11_share 33 = .ok (.iload_n 1, 1) := by decide +kernel
theorem dX11_share_34 : decode cX11_share 34 = .ok (.iload_n 2, 1) := by decide +kernel
theorem dX11_share_35 : decode cX11_share 35 = .ok (.invokestatic 101, 3) := by decide +kernel
theorem dX11_share_38 : decode cX11_share 38 = .ok (.iaload, 1) := by decide +kernel
theorem dX11_share_39 : decode cX11_share 39 = .ok (.iastore, 1) := by decide +kernel
theorem dX11_share_40 : decode cX11_share 40 = .ok (.aload_n 0, 1) := by decide +kernel
theorem dX11_share_41 : decode cX11_share 41 = .ok (.getfield 19, 3) := by decide +kernel
theorem dX11_share_44 : decode cX11_share 44 = .ok (.iload_n 1, 1) := by decide +kernel
theorem dX11_share_45 : decode cX11_share 45 = .ok (.iload_n 3, 1) := by decide +kernel
theorem dX11_share_46 : decode cX11_share 46 = .ok (.invokestatic 101, 3) := by decide +kernel
theorem dX11_share_49 : decode cX11_share 49 = .ok (.iaload, 1) := by decide +kernel
theorem dX11_share_50 : decode cX11_share 50 = .ok (.ifCond .ge 7, 3) := by decide +kernel
theorem dX11_share_53 : decode cX11_share 53 = .ok (.iconst 0, 1) := by decide +kernel
theorem dX11_share_54 : decode cX11_share 54 = .ok (.goto 4, 3) := by decide +kernel
theorem dX11_share_57 : decode cX11_share 57 = .ok (.iconst 1, 1) := by decide +kernel
theorem dX11_share_58 : decode cX11_share 58 = .ok (.ireturn, 1) := by decide +kernel
set_option maxRecDepth 20000 in
theorem ggX11_drop_X11_in : GoodIn wsX11_drop wsX11_in := goodIn_r _ [5] (by decide +kernel) (by decide +kernel)
set_option maxRecDepth 20000 in
theorem gX11_drop_X11_in : GoodIn wsX11_drop (va_wsS RX11 93 yX11_in wsX11_in) := goodIn_app (goodIn_of _ (by decide +kernel)) ggX11_drop_X11_in
set_option maxRecDepth 20000 in
theorem ggX11_drop_X11_slotOf : GoodIn wsX11_drop wsX11_slotOf := goodIn_r _ [8] (by decide +kernel) (by decide +kernel)
set_option maxRecDepth 20000 in
theorem gX11_drop_X11_slotOf : GoodIn wsX11_drop (va_wsS RX11 101 yX11_slotOf wsX11_slotOf) := goodIn_app (goodIn_of _ (by decide +kernel)) ggX11_drop_X11_slotOf
theorem dX11_drop_0 : decode cX11_drop 0 = .ok (.iload_n 2, 1) := by decide +kernel
theorem dX11_drop_1 : decode cX11_drop 1 = .ok (.iconst 0, 1) := by decide +kernel
theorem dX11_drop_2 : decode cX11_drop 2 = .ok (.iconst 5, 1) := by decide +kernel
theorem dX11_drop_3 : decode cX11_drop 3 = .ok (.invokestatic 93, 3) := by decide +kernel
theorem dX11_drop_6 : decode cX11_drop 6 = .ok (.ifCond .ne 5, 3) := by decide +kernel
theorem dX11_drop_9 : decode cX11_drop 9 = .ok (.iconst (-1), 1) := by decide +kernel
theorem dX11_drop_10 : decode cX11_drop 10 = .ok (.ireturn, 1) := by decide +kernel
theorem dX11_drop_11 : decode cX11_drop 11 = .ok (.aload_n 0, 1) := by decide +kernel
theorem dX11_drop_12 : decode cX11_drop 12 = .ok (.getfield 19, 3) := by decide +kernel
theorem dX11_drop_15 : decode cX11_drop 15 = .ok (.iload_n 1, 1) := by decide +kernel
theorem dX11_drop_16 : decode cX11_drop 16 = .ok (.iload_n 2, 1) := by decide +kernel
theorem dX11_drop_17 : decode cX11_drop 17 = .ok (.invokestatic 101, 3) := by decide +kernel
theorem dX11_drop_20 : decode cX11_drop 20 = .ok (.iaload, 1) := by decide +kernel
theorem dX11_drop_21 : decode cX11_drop 21 = .ok (.ifCond .ge 7, 3) := by decide +kernel
theorem dX11_drop_24 : decode cX11_drop 24 = .ok (.iconst 0, 1) := by decide +kernel
theorem dX11_drop_25 : decode cX11_drop 25 = .ok (.goto 4, 3) := by decide +kernel
theorem dX11_drop_28 : decode cX11_drop 28 = .ok (.iconst 1, 1) := by decide +kernel
theorem dX11_drop_29 : decode cX11_drop 29 = .ok (.istore_n 3, 1) := by decide +kernel
theorem dX11_drop_30 : decode cX11_drop 30 = .ok (.aload_n 0, 1) := by decide +kernel
theorem dX11_drop_31 : decode cX11_drop 31 = .ok (.getfield 19, 3) := by decide +kernel
theorem dX11_drop_34 : decode cX11_drop 34 = .ok (.iload_n 1, 1) := by decide +kernel
theorem dX11_drop_35 : decode cX11_drop 35 = .ok (.iload_n 2, 1) := by decide +kernel
theorem dX11_drop_36 : decode cX11_drop 36 = .ok (.invokestatic 101, 3) := by decide +kernel
theorem dX11_drop_39 : decode cX11_drop 39 = .ok (.iconst (-1), 1) := by decide +kernel
theorem dX11_drop_40 : decode cX11_drop 40 = .ok (.iastore, 1) := by decide +kernel
theorem dX11_drop_41 : decode cX11_drop 41 = .ok (.iload_n 3, 1) := by decide +kernel
theorem dX11_drop_42 : decode cX11_drop 42 = .ok (.ireturn, 1) := by decide +kernel
set_option maxRecDepth 20000 in
theorem ggX11_asked_X11_slotOf : GoodIn wsX11_asked wsX11_slotOf := goodIn_r _ [6] (by decide +kernel) (by decide +kernel)
set_option maxRecDepth 20000 in
theorem gX11_asked_X11_slotOf : GoodIn wsX11_asked (va_wsS RX11 101 yX11_slotOf wsX11_slotOf) := goodIn_app (goodIn_of _ (by decide +kernel)) ggX11_asked_X11_slotOf
set_option maxRecDepth 20000 in
theorem ggX11_asked_X11_in : GoodIn wsX11_asked wsX11_in := goodIn_r _ [9] (by decide +kernel) (by decide +kernel)
set_option maxRecDepth 20000 in
theorem gX11_asked_X11_in : GoodIn wsX11_asked (va_wsS RX11 93 yX11_in wsX11_in) := goodIn_app (goodIn_of _ (by decide +kernel)) ggX11_asked_X11_in
theorem dX11_asked_0 : decode cX11_asked 0 = .ok (.aload_n 0, 1) := by decide +kernel
theorem dX11_asked_1 : decode cX11_asked 1 = .ok (.getfield 19, 3) := by decide +kernel
theorem dX11_asked_4 : decode cX11_asked 4 = .ok (.iload_n 1, 1) := by decide +kernel
theorem dX11_asked_5 : decode cX11_asked 5 = .ok (.iload_n 2, 1) := by decide +kernel
theorem dX11_asked_6 : decode cX11_asked 6 = .ok (.invokestatic 101, 3) := by decide +kernel
theorem dX11_asked_9 : decode cX11_asked 9 = .ok (.iaload, 1) := by decide +kernel
theorem dX11_asked_10 : decode cX11_asked 10 = .ok (.istore 4, 2) := by decide +kernel
theorem dX11_asked_12 : decode cX11_asked 12 = .ok (.iload 4, 2) := by decide +kernel
theorem dX11_asked_14 : decode cX11_asked 14 = .ok (.ifCond .ge 7, 3) := by decide +kernel
theorem dX11_asked_17 : decode cX11_asked 17 = .ok (.iconst 1, 1) := by decide +kernel
theorem dX11_asked_18 : decode cX11_asked 18 = .ok (.goto 25, 3) := by decide +kernel
theorem dX11_asked_21 : decode cX11_asked 21 = .ok (.iload_n 3, 1) := by decide +kernel
theorem dX11_asked_22 : decode cX11_asked 22 = .ok (.iconst 0, 1) := by decide +kernel
theorem dX11_asked_23 : decode cX11_asked 23 = .ok (.aload_n 0, 1) := by decide +kernel
theorem dX11_asked_24 : decode cX11_asked 24 = .ok (.getfield 9, 3) := by decide +kernel
theorem dX11_asked_27 : decode cX11_asked 27 = .ok (.iload 4, 2) := by decide +kernel
theorem dX11_asked_29 : decode cX11_asked 29 = .ok (.iaload, 1) := by decide +kernel
theorem dX11_asked_30 : decode cX11_asked 30 = .ok (.iconst 1, 1) := by decide +kernel
theorem dX11_asked_31 : decode cX11_asked 31 = .ok (.isub, 1) := by decide +kernel
theorem dX11_asked_32 : decode cX11_asked 32 = .ok (.invokestatic 93, 3) := by decide +kernel
theorem dX11_asked_35 : decode cX11_asked 35 = .ok (.ifCond .eq 7, 3) := by decide +kernel
theorem dX11_asked_38 : decode cX11_asked 38 = .ok (.iconst 0, 1) := by decide +kernel
theorem dX11_asked_39 : decode cX11_asked 39 = .ok (.goto 4, 3) := by decide +kernel
theorem dX11_asked_42 : decode cX11_asked 42 = .ok (.iconst 2, 1) := by decide +kernel
theorem dX11_asked_43 : decode cX11_asked 43 = .ok (.ireturn, 1) := by decide +kernel
set_option maxRecDepth 20000 in
theorem ggX11_item_X11_slotOf : GoodIn wsX11_item wsX11_slotOf := goodIn_r _ [6] (by decide +kernel) (by decide +kernel)
set_option maxRecDepth 20000 in
theorem gX11_item_X11_slotOf : GoodIn wsX11_item (va_wsS RX11 101 yX11_slotOf wsX11_slotOf) := goodIn_app (goodIn_of _ (by decide +kernel)) ggX11_item_X11_slotOf
theorem dX11_item_0 : decode cX11_item 0 = .ok (.aload_n 0, 1) := by decide +kernel
theorem dX11_item_1 : decode cX11_item 1 = .ok (.getfield 15, 3) := by decide +kernel
theorem dX11_item_4 : decode cX11_item 4 = .ok (.bipush 16, 2) := by decide +kernel
theorem dX11_item_6 : decode cX11_item 6 = .ok (.aload_n 0, 1) := by decide +kernel
theorem dX11_item_7 : decode cX11_item 7 = .ok (.getfield 19, 3) := by decide +kernel
theorem dX11_item_10 : decode cX11_item 10 = .ok (.iload_n 1, 1) := by decide +kernel
theorem dX11_item_11 : decode cX11_item 11 = .ok (.iload_n 2, 1) := by decide +kernel
theorem dX11_item_12 : decode cX11_item 12 = .ok (.invokestatic 101, 3) := by decide +kernel
theorem dX11_item_15 : decode cX11_item 15 = .ok (.iaload, 1) := by decide +kernel
theorem dX11_item_16 : decode cX11_item 16 = .ok (.imul, 1) := by decide +kernel
theorem dX11_item_17 : decode cX11_item 17 = .ok (.iload_n 3, 1) := by decide +kernel
theorem dX11_item_18 : decode cX11_item 18 = .ok (.iadd, 1) := by decide +kernel
theorem dX11_item_19 : decode cX11_item 19 = .ok (.daload, 1) := by decide +kernel
theorem dX11_item_20 : decode cX11_item 20 = .ok (.dreturn, 1) := by decide +kernel
set_option maxRecDepth 20000 in
theorem ggX11_set_X11_in : GoodIn wsX11_set wsX11_in := goodIn_r _ [6] (by decide +kernel) (by decide +kernel)
set_option maxRecDepth 20000 in
theorem gX11_set_X11_in : GoodIn wsX11_set (va_wsS RX11 93 yX11_in wsX11_in) := goodIn_app (goodIn_of _ (by decide +kernel)) ggX11_set_X11_in
set_option maxRecDepth 20000 in
theorem ggX11_set_X11_isFine : GoodIn wsX11_set wsX11_isFine := goodIn_r _ [9, 10, 11, 12, 13] (by decide +kernel) (by decide +kernel)
set_option maxRecDepth 20000 in
theorem gX11_set_X11_isFine : GoodIn wsX11_set (va_wsS RX11 105 yX11_isFine wsX11_isFine) := goodIn_app (goodIn_of _ (by decide +kernel)) ggX11_set_X11_isFine
set_option maxRecDepth 20000 in
theorem ggX11_set_X11_asked : GoodIn wsX11_set wsX11_asked := goodIn_r _ [17, 2, 18, 19, 20, 5, 21, 3, 4, 6, 36, 37, 38, 39, 40, 41, 42, 43, 44, 45, 46, 47, 48, 49, 50, 51, 52, 53, 54, 55, 56] (by decide +kernel) (by decide +kernel)
set_option maxRecDepth 20000 in
theorem gX11_set_X11_asked : GoodIn wsX11_set (wsV RX11 109 RX11 yX11_asked wsX11_asked) := goodIn_app (goodIn_of _ (by decide +kernel)) ggX11_set_X11_asked
set_option maxRecDepth 20000 in
theorem ggX11_set_X11_fails : GoodIn wsX11_set wsX11_fails := goodIn_r _ [24] (by decide +kernel) (by decide +kernel)
set_option maxRecDepth 20000 in
theorem gX11_set_X11_fails : GoodIn wsX11_set (va_wsS RX11 113 yX11_fails wsX11_fails) := goodIn_app (goodIn_of _ (by decide +kernel)) ggX11_set_X11_fails
set_option maxRecDepth 20000 in
theorem ggX11_set_X11_slotOf : GoodIn wsX11_set wsX11_slotOf := goodIn_r _ [21] (by decide +kernel) (by decide +kernel)
set_option maxRecDepth 20000 in
theorem gX11_set_X11_slotOf : GoodIn wsX11_set (va_wsS RX11 101 yX11_slotOf wsX11_slotOf) := goodIn_app (goodIn_of _ (by decide +kernel)) ggX11_set_X11_slotOf
set_option maxRecDepth 20000 in
theorem ggX11_set_X11_number : GoodIn wsX11_set wsX11_number := goodIn_r _ [27, 28, 29, 30, 31, 32, 33, 34, 35] (by decide +kernel) (by decide +kernel)
set_option maxRecDepth 20000 in
theorem gX11_set_X11_number : GoodIn wsX11_set (va_wsS RX11 117 yX11_number wsX11_number) := goodIn_app (goodIn_of _ (by decide +kernel)) ggX11_set_X11_number
theorem dX11_set_0 : decode cX11_set 0 = .ok (.iload_n 2, 1) := by decide +kernel
theorem dX11_set_1 : decode cX11_set 1 = .ok (.iconst 0, 1) := by decide +kernel
theorem dX11_set_2 : decode cX11_set 2 = .ok (.iconst 5, 1) := by decide +kernel
theorem dX11_set_3 : decode cX11_set 3 = .ok (.invokestatic 93, 3) := by decide +kernel
theorem dX11_set_6 : decode cX11_set 6 = .ok (.ifCond .eq 12, 3) := by decide +kernel
theorem dX11_set_9 : decode cX11_set 9 = .ok (.iload_n 1, 1) := by decide +kernel
theorem dX11_set_10 : decode cX11_set 10 = .ok (.lload 4, 2) := by decide +kernel
theorem dX11_set_12 : decode cX11_set 12 = .ok (.invokestatic 105, 3) := by decide +kernel
theorem dX11_set_15 : decode cX11_set 15 = .ok (.ifCond .ne 5, 3) := by decide +kernel
theorem dX11_set_18 : decode cX11_set 18 = .ok (.iconst (-1), 1) := by decide +kernel
theorem dX11_set_19 : decode cX11_set 19 = .ok (.ireturn, 1) := by decide +kernel
theorem dX11_set_20 : decode cX11_set 20 = .ok (.aload_n 0, 1) := by decide +kernel
theorem dX11_set_21 : decode cX11_set 21 = .ok (.iload_n 1, 1) := by decide +kernel
theorem dX11_set_22 : decode cX11_set 22 = .ok (.iload_n 2, 1) := by decide +kernel
theorem dX11_set_23 : decode cX11_set 23 = .ok (.iload_n 3, 1) := by decide +kernel
theorem dX11_set_24 : decode cX11_set 24 = .ok (.invokevirtual 109, 3) := by decide +kernel
theorem dX11_set_27 : decode cX11_set 27 = .ok (.istore 6, 2) := by decide +kernel
theorem dX11_set_29 : decode cX11_set 29 = .ok (.iload 6, 2) := by decide +kernel
theorem dX11_set_31 : decode cX11_set 31 = .ok (.ifCond .eq 9, 3) := by decide +kernel
theorem dX11_set_34 : decode cX11_set 34 = .ok (.iload 6, 2) := by decide +kernel
theorem dX11_set_36 : decode cX11_set 36 = .ok (.invokestatic 113, 3) := by decide +kernel
theorem dX11_set_39 : decode cX11_set 39 = .ok (.ireturn, 1) := by decide +kernel
theorem dX11_set_40 : decode cX11_set 40 = .ok (.aload_n 0, 1) := by decide +kernel
theorem dX11_set_41 : decode cX11_set 41 = .ok (.getfield 15, 3) := by decide +kernel
theorem dX11_set_44 : decode cX11_set 44 = .ok (.bipush 16, 2) := by decide +kernel
theorem dX11_set_46 : decode cX11_set 46 = .ok (.aload_n 0, 1) := by decide +kernel
theorem dX11_set_47 : decode cX11_set 47 = .ok (.getfield 19, 3) := by decide +kernel
theorem dX11_set_50 : decode cX11_set 50 = .ok (.iload_n 1, 1) := by decide +kernel
theorem dX11_set_51 : decode cX11_set 51 = .ok (.iload_n 2, 1) := by decide +kernel
theorem dX11_set_52 : decode cX11_set 52 = .ok (.invokestatic 101, 3) := by decide +kernel
theorem dX11_set_55 : decode cX11_set 55 = .ok (.iaload, 1) := by decide +kernel
theorem dX11_set_56 : decode cX11_set 56 = .ok (.imul, 1) := by decide +kernel
theorem dX11_set_57 : decode cX11_set 57 = .ok (.iload_n 3, 1) := by decide +kernel
theorem dX11_set_58 : decode cX11_set 58 = .ok (.iadd, 1) := by decide +kernel
theorem dX11_set_59 : decode cX11_set 59 = .ok (.iload_n 1, 1) := by decide +kernel
theorem dX11_set_60 : decode cX11_set 60 = .ok (.lload 4, 2) := by decide +kernel
theorem dX11_set_62 : decode cX11_set 62 = .ok (.invokestatic 117, 3) := by decide +kernel
theorem dX11_set_65 : decode cX11_set 65 = .ok (.dastore, 1) := by decide +kernel
theorem dX11_set_66 : decode cX11_set 66 = .ok (.iconst 1, 1) := by decide +kernel
theorem dX11_set_67 : decode cX11_set 67 = .ok (.ireturn, 1) := by decide +kernel
set_option maxRecDepth 20000 in
theorem ggX11_get_X11_in : GoodIn wsX11_get wsX11_in := goodIn_r _ [5] (by decide +kernel) (by decide +kernel)
set_option maxRecDepth 20000 in
theorem gX11_get_X11_in : GoodIn wsX11_get (va_wsS RX11 93 yX11_in wsX11_in) := goodIn_app (goodIn_of _ (by decide +kernel)) ggX11_get_X11_in
set_option maxRecDepth 20000 in
theorem ggX11_get_X11_asked : GoodIn wsX11_get wsX11_asked := goodIn_r _ [9, 10, 11, 12, 13, 4, 14, 2, 3, 5, 50, 51, 52, 53, 54, 55, 56, 57, 58, 59, 60, 61, 62, 63, 64, 65, 66, 67, 68, 69, 70] (by decide +kernel) (by decide +kernel)
set_option maxRecDepth 20000 in
theorem gX11_get_X11_asked : GoodIn wsX11_get (wsV RX11 109 RX11 yX11_asked wsX11_asked) := goodIn_app (goodIn_of _ (by decide +kernel)) ggX11_get_X11_asked
set_option maxRecDepth 20000 in
theorem ggX11_get_X11_fails : GoodIn wsX11_get wsX11_fails := goodIn_r _ [17] (by decide +kernel) (by decide +kernel)
set_option maxRecDepth 20000 in
theorem gX11_get_X11_fails : GoodIn wsX11_get (va_wsS RX11 113 yX11_fails wsX11_fails) := goodIn_app (goodIn_of _ (by decide +kernel)) ggX11_get_X11_fails
set_option maxRecDepth 20000 in
theorem ggX11_get_X11_item : GoodIn wsX11_get wsX11_item := goodIn_r _ [21, 22, 10, 12, 13, 4, 14, 50, 51, 52, 53, 54, 55, 56, 57, 58, 59, 60, 61, 62, 63, 64, 65, 66, 67, 68, 69, 70] (by decide +kernel) (by decide +kernel)
set_option maxRecDepth 20000 in
theorem gX11_get_X11_item : GoodIn wsX11_get (wsV RX11 121 RX11 yX11_item wsX11_item) := goodIn_app (goodIn_of _ (by decide +kernel)) ggX11_get_X11_item
set_option maxRecDepth 20000 in
theorem ggX11_get_X11_bitsOf : GoodIn wsX11_get wsX11_bitsOf := goodIn_r _ [25, 26, 27, 28, 29, 30, 31, 32, 33, 34, 35, 36, 37, 38, 39, 40, 41, 42, 43, 44, 45, 46, 47, 48, 49] (by decide +kernel) (by decide +kernel)
set_option maxRecDepth 20000 in
theorem gX11_get_X11_bitsOf : GoodIn wsX11_get (va_wsS RX11 125 yX11_bitsOf wsX11_bitsOf) := goodIn_app (goodIn_of _ (by decide +kernel)) ggX11_get_X11_bitsOf
theorem dX11_get_0 : decode cX11_get 0 = .ok (.iload_n 2, 1) := by decide +kernel
theorem dX11_get_1 : decode cX11_get 1 = .ok (.iconst 0, 1) := by decide +kernel
theorem dX11_get_2 : decode cX11_get 2 = .ok (.iconst 5, 1) := by decide +kernel
theorem dX11_get_3 : decode cX11_get 3 = .ok (.invokestatic 93, 3) := by decide +kernel
theorem dX11_get_6 : decode cX11_get 6 = .ok (.ifCond .ne 5, 3) := by decide +kernel
theorem dX11_get_9 : decode cX11_get 9 = .ok (.iconst (-1), 1) := by decide +kernel
theorem dX11_get_10 : decode cX11_get 10 = .ok (.ireturn, 1) := by decide +kernel
theorem dX11_get_11 : decode cX11_get 11 = .ok (.aload_n 0, 1) := by decide +kernel
theorem dX11_get_12 : decode cX11_get 12 = .ok (.iload_n 1, 1) := by decide +kernel
theorem dX11_get_13 : decode cX11_get 13 = .ok (.iload_n 2, 1) := by decide +kernel
theorem dX11_get_14 : decode cX11_get 14 = .ok (.iload_n 3, 1) := by decide +kernel
theorem dX11_get_15 : decode cX11_get 15 = .ok (.invokevirtual 109, 3) := by decide +kernel
theorem dX11_get_18 : decode cX11_get 18 = .ok (.istore 4, 2) := by decide +kernel
theorem dX11_get_20 : decode cX11_get 20 = .ok (.iload 4, 2) := by decide +kernel
theorem dX11_get_22 : decode cX11_get 22 = .ok (.ifCond .eq 9, 3) := by decide +kernel
theorem dX11_get_25 : decode cX11_get 25 = .ok (.iload 4, 2) := by decide +kernel
theorem dX11_get_27 : decode cX11_get 27 = .ok (.invokestatic 113, 3) := by decide +kernel
theorem dX11_get_30 : decode cX11_get 30 = .ok (.ireturn, 1) := by decide +kernel
theorem dX11_get_31 : decode cX11_get 31 = .ok (.aload_n 0, 1) := by decide +kernel
theorem dX11_get_32 : decode cX11_get 32 = .ok (.iload_n 1, 1) := by decide +kernel
theorem dX11_get_33 : decode cX11_get 33 = .ok (.aload_n 0, 1) := by decide +kernel
theorem dX11_get_34 : decode cX11_get 34 = .ok (.iload_n 1, 1) := by decide +kernel
theorem dX11_get_35 : decode cX11_get 35 = .ok (.iload_n 2, 1) := by decide +kernel
theorem dX11_get_36 : decode cX11_get 36 = .ok (.iload_n 3, 1) := by decide +kernel
theorem dX11_get_37 : decode cX11_get 37 = .ok (.invokevirtual 121, 3) := by decide +kernel
theorem dX11_get_40 : decode cX11_get 40 = .ok (.invokestatic 125, 3) := by decide +kernel
theorem dX11_get_43 : decode cX11_get 43 = .ok (.putfield 129, 3) := by decide +kernel
theorem dX11_get_46 : decode cX11_get 46 = .ok (.iconst 1, 1) := by decide +kernel
theorem dX11_get_47 : decode cX11_get 47 = .ok (.ireturn, 1) := by decide +kernel
set_option maxRecDepth 20000 in
theorem ggX11_wrap_X11_in : GoodIn wsX11_wrap wsX11_in := goodIn_r _ [6] (by decide +kernel) (by decide +kernel)
set_option maxRecDepth 20000 in
theorem gX11_wrap_X11_in : GoodIn wsX11_wrap (va_wsS RX11 93 yX11_in wsX11_in) := goodIn_app (goodIn_of _ (by decide +kernel)) ggX11_wrap_X11_in
set_option maxRecDepth 20000 in
theorem ggX11_wrap_X11_asked : GoodIn wsX11_wrap wsX11_asked := goodIn_r _ [10, 2, 11, 12, 13, 5, 14, 3, 4, 6, 22, 23, 24, 25, 26, 27, 28, 29, 30, 31, 32, 33, 34, 35, 36, 37, 38, 39, 40, 41, 42] (by decide +kernel) (by decide +kernel)
set_option maxRecDepth 20000 in
theorem gX11_wrap_X11_asked : GoodIn wsX11_wrap (wsV RX11 109 RX11 yX11_asked wsX11_asked) := goodIn_app (goodIn_of _ (by decide +kernel)) ggX11_wrap_X11_asked
set_option maxRecDepth 20000 in
theorem ggX11_wrap_X11_fails : GoodIn wsX11_wrap wsX11_fails := goodIn_r _ [17] (by decide +kernel) (by decide +kernel)
set_option maxRecDepth 20000 in
theorem gX11_wrap_X11_fails : GoodIn wsX11_wrap (va_wsS RX11 113 yX11_fails wsX11_fails) := goodIn_app (goodIn_of _ (by decide +kernel)) ggX11_wrap_X11_fails
set_option maxRecDepth 20000 in
theorem ggX11_wrap_X11_item : GoodIn wsX11_wrap wsX11_item := goodIn_r _ [21, 1, 2, 12, 13, 5, 14, 22, 23, 24, 25, 26, 27, 28, 29, 30, 31, 32, 33, 34, 35, 36, 37, 38, 39, 40, 41, 42] (by decide +kernel) (by decide +kernel)
set_option maxRecDepth 20000 in
theorem gX11_wrap_X11_item : GoodIn wsX11_wrap (wsV RX11 121 RX11 yX11_item wsX11_item) := goodIn_app (goodIn_of _ (by decide +kernel)) ggX11_wrap_X11_item
set_option maxRecDepth 20000 in
theorem ggX11_wrap_X11_slotOf : GoodIn wsX11_wrap wsX11_slotOf := goodIn_r _ [14] (by decide +kernel) (by decide +kernel)
set_option maxRecDepth 20000 in
theorem gX11_wrap_X11_slotOf : GoodIn wsX11_wrap (va_wsS RX11 101 yX11_slotOf wsX11_slotOf) := goodIn_app (goodIn_of _ (by decide +kernel)) ggX11_wrap_X11_slotOf
theorem dX11_wrap_0 : decode cX11_wrap 0 = .ok (.iload_n 2, 1) := by decide +kernel
theorem dX11_wrap_1 : decode cX11_wrap 1 = .ok (.iconst 0, 1) := by decide +kernel
theorem dX11_wrap_2 : decode cX11_wrap 2 = .ok (.iconst 5, 1) := by decide +kernel
theorem dX11_wrap_3 : decode cX11_wrap 3 = .ok (.invokestatic 93, 3) := by decide +kernel
theorem dX11_wrap_6 : decode cX11_wrap 6 = .ok (.ifCond .ne 5, 3) := by decide +kernel
theorem dX11_wrap_9 : decode cX11_wrap 9 = .ok (.iconst (-1), 1) := by decide +kernel
theorem dX11_wrap_10 : decode cX11_wrap 10 = .ok (.ireturn, 1) := by decide +kernel
theorem dX11_wrap_11 : decode cX11_wrap 11 = .ok (.aload_n 0, 1) := by decide +kernel
theorem dX11_wrap_12 : decode cX11_wrap 12 = .ok (.iload_n 1, 1) := by decide +kernel
theorem dX11_wrap_13 : decode cX11_wrap 13 = .ok (.iload_n 2, 1) := by decide +kernel
theorem dX11_wrap_14 : decode cX11_wrap 14 = .ok (.iload_n 3, 1) := by decide +kernel
theorem dX11_wrap_15 : decode cX11_wrap 15 = .ok (.invokevirtual 109, 3) := by decide +kernel
theorem dX11_wrap_18 : decode cX11_wrap 18 = .ok (.istore 5, 2) := by decide +kernel
theorem dX11_wrap_20 : decode cX11_wrap 20 = .ok (.iload 5, 2) := by decide +kernel
theorem dX11_wrap_22 : decode cX11_wrap 22 = .ok (.ifCond .eq 8, 3) := by decide +kernel
theorem dX11_wrap_25 : decode cX11_wrap 25 = .ok (.iload 5, 2) := by decide +kernel
theorem dX11_wrap_27 : decode cX11_wrap 27 = .ok (.goto 11, 3) := by decide +kernel
theorem dX11_wrap_30 : decode cX11_wrap 30 = .ok (.aload_n 0, 1) := by decide +kernel
theorem dX11_wrap_31 : decode cX11_wrap 31 = .ok (.iload_n 1, 1) := by decide +kernel
theorem dX11_wrap_32 : decode cX11_wrap 32 = .ok (.iload_n 2, 1) := by decide +kernel
theorem dX11_wrap_33 : decode cX11_wrap 33 = .ok (.iload 4, 2) := by decide +kernel
theorem dX11_wrap_35 : decode cX11_wrap 35 = .ok (.invokevirtual 109, 3) := by decide +kernel
theorem dX11_wrap_38 : decode cX11_wrap 38 = .ok (.istore 5, 2) := by decide +kernel
theorem dX11_wrap_40 : decode cX11_wrap 40 = .ok (.iload 5, 2) := by decide +kernel
theorem dX11_wrap_42 : decode cX11_wrap 42 = .ok (.ifCond .eq 9, 3) := by decide +kernel
theorem dX11_wrap_45 : decode cX11_wrap 45 = .ok (.iload 5, 2) := by decide +kernel
theorem dX11_wrap_47 : decode cX11_wrap 47 = .ok (.invokestatic 113, 3) := by decide +kernel
theorem dX11_wrap_50 : decode cX11_wrap 50 = .ok (.ireturn, 1) := by decide +kernel
theorem dX11_wrap_51 : decode cX11_wrap 51 = .ok (.aload_n 0, 1) := by decide +kernel
theorem dX11_wrap_52 : decode cX11_wrap 52 = .ok (.iload_n 1, 1) := by decide +kernel
theorem dX11_wrap_53 : decode cX11_wrap 53 = .ok (.iload_n 2, 1) := by decide +kernel
theorem dX11_wrap_54 : decode cX11_wrap 54 = .ok (.iload 4, 2) := by decide +kernel
theorem dX11_wrap_56 : decode cX11_wrap 56 = .ok (.invokevirtual 121, 3) := by decide +kernel
theorem dX11_wrap_59 : decode cX11_wrap 59 = .ok (.dstore 6, 2) := by decide +kernel
theorem dX11_wrap_61 : decode cX11_wrap 61 = .ok (.dload 6, 2) := by decide +kernel
theorem dX11_wrap_63 : decode cX11_wrap 63 = .ok (.dconst 0, 1) := by decide +kernel
theorem dX11_wrap_64 : decode cX11_wrap 64 = .ok (.dcmp .l, 1) := by decide +kernel
theorem dX11_wrap_65 : decode cX11_wrap 65 = .ok (.ifCond .ne 8, 3) := by decide +kernel
theorem dX11_wrap_68 : decode cX11_wrap 68 = .ok (.iconst 5, 1) := by decide +kernel
theorem dX11_wrap_69 : decode cX11_wrap 69 = .ok (.invokestatic 113, 3) := by decide +kernel
theorem dX11_wrap_72 : decode cX11_wrap 72 = .ok (.ireturn, 1) := by decide +kernel
theorem dX11_wrap_73 : decode cX11_wrap 73 = .ok (.aload_n 0, 1) := by decide +kernel
theorem dX11_wrap_74 : decode cX11_wrap 74 = .ok (.getfield 15, 3) := by decide +kernel
theorem dX11_wrap_77 : decode cX11_wrap 77 = .ok (.bipush 16, 2) := by decide +kernel
theorem dX11_wrap_79 : decode cX11_wrap 79 = .ok (.aload_n 0, 1) := by decide +kernel
theorem dX11_wrap_80 : decode cX11_wrap 80 = .ok (.getfield 19, 3) := by decide +kernel
theorem dX11_wrap_83 : decode cX11_wrap 83 = .ok (.iload_n 1, 1) := by decide +kernel
theorem dX11_wrap_84 : decode cX11_wrap 84 = .ok (.iload_n 2, 1) := by decide +kernel
theorem dX11_wrap_85 : decode cX11_wrap 85 = .ok (.invokestatic 101, 3) := by decide +kernel
theorem dX11_wrap_88 : decode cX11_wrap 88 = .ok (.iaload, 1) := by decide +kernel
theorem dX11_wrap_89 : decode cX11_wrap 89 = .ok (.imul, 1) := by decide +kernel
theorem dX11_wrap_90 : decode cX11_wrap 90 = .ok (.iload_n 3, 1) := by decide +kernel
theorem dX11_wrap_91 : decode cX11_wrap 91 = .ok (.iadd, 1) := by decide +kernel
theorem dX11_wrap_92 : decode cX11_wrap 92 = .ok (.aload_n 0, 1) := by decide +kernel
theorem dX11_wrap_93 : decode cX11_wrap 93 = .ok (.iload_n 1, 1) := by decide +kernel
theorem dX11_wrap_94 : decode cX11_wrap 94 = .ok (.iload_n 2, 1) := by decide +kernel
theorem dX11_wrap_95 : decode cX11_wrap 95 = .ok (.iload_n 3, 1) := by decide +kernel
theorem dX11_wrap_96 : decode cX11_wrap 96 = .ok (.invokevirtual 121, 3) := by decide +kernel
theorem dX11_wrap_99 : decode cX11_wrap 99 = .ok (.dload 6, 2) := by decide +kernel
theorem dX11_wrap_101 : decode cX11_wrap 101 = .ok (.drem, 1) := by decide +kernel
theorem dX11_wrap_102 : decode cX11_wrap 102 = .ok (.dastore, 1) := by decide +kernel
theorem dX11_wrap_103 : decode cX11_wrap 103 = .ok (.iconst 1, 1) := by decide +kernel
theorem dX11_wrap_104 : decode cX11_wrap 104 = .ok (.ireturn, 1) := by decide +kernel
set_option maxRecDepth 20000 in
theorem ggX11_effect_X11_in : GoodIn wsX11_effect wsX11_in := goodIn_r _ [14] (by decide +kernel) (by decide +kernel)
set_option maxRecDepth 20000 in
theorem gX11_effect_X11_in : GoodIn wsX11_effect (va_wsS RX11 93 yX11_in wsX11_in) := goodIn_app (goodIn_of _ (by decide +kernel)) ggX11_effect_X11_in
set_option maxRecDepth 20000 in
theorem ggX11_effect_X11_isFine : GoodIn wsX11_effect wsX11_isFine := goodIn_r _ [17, 18, 19, 20, 21] (by decide +kernel) (by decide +kernel)
set_option maxRecDepth 20000 in
theorem gX11_effect_X11_isFine : GoodIn wsX11_effect (va_wsS RX11 105 yX11_isFine wsX11_isFine) := goodIn_app (goodIn_of _ (by decide +kernel)) ggX11_effect_X11_isFine
theorem dX11_effect_0 : decode cX11_effect 0 = .ok (.iload_n 1, 1) := by decide +kernel
theorem dX11_effect_1 : decode cX11_effect 1 = .ok (.iconst 0, 1) := by decide +kernel
theorem dX11_effect_2 : decode cX11_effect 2 = .ok (.iconst 5, 1) := by decide +kernel
theorem dX11_effect_3 : decode cX11_effect 3 = .ok (.invokestatic 93, 3) := by decide +kernel
theorem dX11_effect_6 : decode cX11_effect 6 = .ok (.ifCond .eq 20, 3) := by decide +kernel
theorem dX11_effect_9 : decode cX11_effect 9 = .ok (.iload_n 2, 1) := by decide +kernel
theorem dX11_effect_10 : decode cX11_effect 10 = .ok (.iconst 0, 1) := by decide +kernel
theorem dX11_effect_11 : decode cX11_effect 11 = .ok (.iconst 2, 1) := by decide +kernel
theorem dX11_effect_12 : decode cX11_effect 12 = .ok (.invokestatic 93, 3) := by decide +kernel
theorem dX11_effect_15 : decode cX11_effect 15 = .ok (.ifCond .eq 11, 3) := by decide +kernel
theorem dX11_effect_18 : decode cX11_effect 18 = .ok (.iconst 1, 1) := by decide +kernel
theorem dX11_effect_19 : decode cX11_effect 19 = .ok (.lload_n 3, 1) := by decide +kernel
theorem dX11_effect_20 : decode cX11_effect 20 = .ok (.invokestatic 105, 3) := by decide +kernel
theorem dX11_effect_23 : decode cX11_effect 23 = .ok (.ifCond .ne 5, 3) := by decide +kernel
theorem dX11_effect_26 : decode cX11_effect 26 = .ok (.iconst (-1), 1) := by decide +kernel
theorem dX11_effect_27 : decode cX11_effect 27 = .ok (.ireturn, 1) := by decide +kernel
theorem dX11_effect_28 : decode cX11_effect 28 = .ok (.lload_n 3, 1) := by decide +kernel
theorem dX11_effect_29 : decode cX11_effect 29 = .ok (.invokestatic 69, 3) := by decide +kernel
theorem dX11_effect_32 : decode cX11_effect 32 = .ok (.dstore 5, 2) := by decide +kernel
theorem dX11_effect_34 : decode cX11_effect 34 = .ok (.dload 5, 2) := by decide +kernel
theorem dX11_effect_36 : decode cX11_effect 36 = .ok (.ldc2_w 133, 3) := by decide +kernel
theorem dX11_effect_39 : decode cX11_effect 39 = .ok (.dcmp .g, 1) := by decide +kernel
theorem dX11_effect_40 : decode cX11_effect 40 = .ok (.ifCond .lt 12, 3) := by decide +kernel
theorem dX11_effect_43 : decode cX11_effect 43 = .ok (.dload 5, 2) := by decide +kernel
theorem dX11_effect_45 : decode cX11_effect 45 = .ok (.ldc2_w 135, 3) := by decide +kernel
theorem dX11_effect_48 : decode cX11_effect 48 = .ok (.dcmp .l, 1) := by decide +kernel
theorem dX11_effect_49 : decode cX11_effect 49 = .ok (.ifCond .le 5, 3) := by decide +kernel
theorem dX11_effect_52 : decode cX11_effect 52 = .ok (.iconst (-1), 1) := by decide +kernel
theorem dX11_effect_53 : decode cX11_effect 53 = .ok (.ireturn, 1) := by decide +kernel
theorem dX11_effect_54 : decode cX11_effect 54 = .ok (.aload_n 0, 1) := by decide +kernel
theorem dX11_effect_55 : decode cX11_effect 55 = .ok (.getfield 22, 3) := by decide +kernel
theorem dX11_effect_58 : decode cX11_effect 58 = .ok (.aload_n 0, 1) := by decide +kernel
theorem dX11_effect_59 : decode cX11_effect 59 = .ok (.getfield 137, 3) := by decide +kernel
theorem dX11_effect_62 : decode cX11_effect 62 = .ok (.iload_n 2, 1) := by decide +kernel
theorem dX11_effect_63 : decode cX11_effect 63 = .ok (.iastore, 1) := by decide +kernel
theorem dX11_effect_64 : decode cX11_effect 64 = .ok (.aload_n 0, 1) := by decide +kernel
theorem dX11_effect_65 : decode cX11_effect 65 = .ok (.getfield 25, 3) := by decide +kernel
theorem dX11_effect_68 : decode cX11_effect 68 = .ok (.aload_n 0, 1) := by decide +kernel
theorem dX11_effect_69 : decode cX11_effect 69 = .ok (.getfield 137, 3) := by decide +kernel
theorem dX11_effect_72 : decode cX11_effect 72 = .ok (.dload 5, 2) := by decide +kernel
theorem dX11_effect_74 : decode cX11_effect 74 = .ok (.dastore, 1) := by decide +kernel
theorem dX11_effect_75 : decode cX11_effect 75 = .ok (.aload_n 0, 1) := by decide +kernel
theorem dX11_effect_76 : decode cX11_effect 76 = .ok (.getfield 28, 3) := by decide +kernel
theorem dX11_effect_79 : decode cX11_effect 79 = .ok (.iload_n 1, 1) := by decide +kernel
theorem dX11_effect_80 : decode cX11_effect 80 = .ok (.aload_n 0, 1) := by decide +kernel
theorem dX11_effect_81 : decode cX11_effect 81 = .ok (.getfield 137, 3) := by decide +kernel
theorem dX11_effect_84 : decode cX11_effect 84 = .ok (.iastore, 1) := by decide +kernel
theorem dX11_effect_85 : decode cX11_effect 85 = .ok (.aload_n 0, 1) := by decide +kernel
theorem dX11_effect_86 : decode cX11_effect 86 = .ok (.dup, 1) := by decide +kernel
theorem dX11_effect_87 : decode cX11_effect 87 = .ok (.getfield 137, 3) := by decide +kernel
theorem dX11_effect_90 : decode cX11_effect 90 = .ok (.iconst 1, 1) := by decide +kernel
theorem dX11_effect_91 : decode cX11_effect 91 = .ok (.iadd, 1) := by decide +kernel
theorem dX11_effect_92 : decode cX11_effect 92 = .ok (.putfield 137, 3) := by decide +kernel
theorem dX11_effect_95 : decode cX11_effect 95 = .ok (.iconst 1, 1) := by decide +kernel
theorem dX11_effect_96 : decode cX11_effect 96 = .ok (.ireturn, 1) := by decide +kernel
set_option maxRecDepth 20000 in
theorem ggX11_made_X11_held : GoodIn wsX11_made wsX11_held := goodIn_r _ [9, 10, 11, 12, 13] (by decide +kernel) (by decide +kernel)
set_option maxRecDepth 20000 in
theorem gX11_made_X11_held : GoodIn wsX11_made (va_wsS RX11 140 yX11_held wsX11_held) := goodIn_app (goodIn_of _ (by decide +kernel)) ggX11_made_X11_held
theorem dX11_made_0 : decode cX11_made 0 = .ok (.aload_n 0, 1) := by decide +kernel
theorem dX11_made_1 : decode cX11_made 1 = .ok (.getfield 25, 3) := by decide +kernel
theorem dX11_made_4 : decode cX11_made 4 = .ok (.iload_n 1, 1) := by decide +kernel
theorem dX11_made_5 : decode cX11_made 5 = .ok (.daload, 1) := by decide +kernel
theorem dX11_made_6 : decode cX11_made 6 = .ok (.dstore 4, 2) := by decide +kernel
theorem dX11_made_8 : decode cX11_made 8 = .ok (.aload_n 0, 1) := by decide +kernel
theorem dX11_made_9 : decode cX11_made 9 = .ok (.getfield 22, 3) := by decide +kernel
theorem dX11_made_12 : decode cX11_made 12 = .ok (.iload_n 1, 1) := by decide +kernel
theorem dX11_made_13 : decode cX11_made 13 = .ok (.iaload, 1) := by decide +kernel
theorem dX11_made_14 : decode cX11_made 14 = .ok (.ifCond .ne 11, 3) := by decide +kernel
theorem dX11_made_17 : decode cX11_made 17 = .ok (.dload_n 2, 1) := by decide +kernel
theorem dX11_made_18 : decode cX11_made 18 = .ok (.dload 4, 2) := by decide +kernel
theorem dX11_made_20 : decode cX11_made 20 = .ok (.dmul, 1) := by decide +kernel
theorem dX11_made_21 : decode cX11_made 21 = .ok (.invokestatic 140, 3) := by decide +kernel
theorem dX11_made_24 : decode cX11_made 24 = .ok (.dreturn, 1) := by decide +kernel
theorem dX11_made_25 : decode cX11_made 25 = .ok (.aload_n 0, 1) := by decide +kernel
theorem dX11_made_26 : decode cX11_made 26 = .ok (.getfield 22, 3) := by decide +kernel
theorem dX11_made_29 : decode cX11_made 29 = .ok (.iload_n 1, 1) := by decide +kernel
theorem dX11_made_30 : decode cX11_made 30 = .ok (.iaload, 1) := by decide +kernel
theorem dX11_made_31 : decode cX11_made 31 = .ok (.iconst 1, 1) := by decide +kernel
theorem dX11_made_32 : decode cX11_made 32 = .ok (.if_icmp .ne 53, 3) := by decide +kernel
theorem dX11_made_35 : decode cX11_made 35 = .ok (.dload_n 2, 1) := by decide +kernel
theorem dX11_made_36 : decode cX11_made 36 = .ok (.dload 4, 2) := by decide +kernel
theorem dX11_made_38 : decode cX11_made 38 = .ok (.dmul, 1) := by decide +kernel
theorem dX11_made_39 : decode cX11_made 39 = .ok (.ldc2_w 144, 3) := by decide +kernel
theorem dX11_made_42 : decode cX11_made 42 = .ok (.drem, 1) := by decide +kernel
theorem dX11_made_43 : decode cX11_made 43 = .ok (.dstore 6, 2) := by decide +kernel
theorem dX11_made_45 : decode cX11_made 45 = .ok (.dload 6, 2) := by decide +kernel
theorem dX11_made_47 : decode cX11_made 47 = .ok (.dconst 1, 1) := by decide +kernel
theorem dX11_made_48 : decode cX11_made 48 = .ok (.dcmp .l, 1) := by decide +kernel
theorem dX11_made_49 : decode cX11_made 49 = .ok (.ifCond .le 12, 3) := by decide +kernel
theorem dX11_made_52 : decode cX11_made 52 = .ok (.ldc2_w 144, 3) := by decide +kernel
theorem dX11_made_55 : decode cX11_made 55 = .ok (.dload 6, 2) := by decide +kernel
theorem dX11_made_57 : decode cX11_made 57 = .ok (.dsub, 1) := by decide +kernel
theorem dX11_made_58 : decode cX11_made 58 = .ok (.goto 23, 3) := by decide +kernel
theorem dX11_made_61 : decode cX11_made 61 = .ok (.dload 6, 2) := by decide +kernel
theorem dX11_made_63 : decode cX11_made 63 = .ok (.ldc2_w 146, 3) := by decide +kernel
theorem dX11_made_66 : decode cX11_made 66 = .ok (.dcmp .g, 1) := by decide +kernel
theorem dX11_made_67 : decode cX11_made 67 = .ok (.ifCond .ge 12, 3) := by decide +kernel
theorem dX11_made_70 : decode cX11_made 70 = .ok (.ldc2_w 148, 3) := by decide +kernel
theorem dX11_made_73 : decode cX11_made 73 = .ok (.dload 6, 2) := by decide +kernel
theorem dX11_made_75 : decode cX11_made 75 = .ok (.dsub, 1) := by decide +kernel
theorem dX11_made_76 : decode cX11_made 76 = .ok (.goto 5, 3) := by decide +kernel
theorem dX11_made_79 : decode cX11_made 79 = .ok (.dload 6, 2) := by decide +kernel
theorem dX11_made_81 : decode cX11_made 81 = .ok (.invokestatic 140, 3) := by decide +kernel
theorem dX11_made_84 : decode cX11_made 84 = .ok (.dreturn, 1) := by decide +kernel
theorem dX11_made_85 : decode cX11_made 85 = .ok (.dload 4, 2) := by decide +kernel
theorem dX11_made_87 : decode cX11_made 87 = .ok (.d2i, 1) := by decide +kernel
theorem dX11_made_88 : decode cX11_made 88 = .ok (.iconst 1, 1) := by decide +kernel
theorem dX11_made_89 : decode cX11_made 89 = .ok (.if_icmp .ge 7, 3) := by decide +kernel
theorem dX11_made_92 : decode cX11_made 92 = .ok (.iconst 1, 1) := by decide +kernel
theorem dX11_made_93 : decode cX11_made 93 = .ok (.goto 6, 3) := by decide +kernel
theorem dX11_made_96 : decode cX11_made 96 = .ok (.dload 4, 2) := by decide +kernel
theorem dX11_made_98 : decode cX11_made 98 = .ok (.d2i, 1) := by decide +kernel
theorem dX11_made_99 : decode cX11_made 99 = .ok (.istore 6, 2) := by decide +kernel
theorem dX11_made_101 : decode cX11_made 101 = .ok (.dload_n 2, 1) := by decide +kernel
theorem dX11_made_102 : decode cX11_made 102 = .ok (.iload 6, 2) := by decide +kernel
theorem dX11_made_104 : decode cX11_made 104 = .ok (.i2d, 1) := by decide +kernel
theorem dX11_made_105 : decode cX11_made 105 = .ok (.dmul, 1) := by decide +kernel
theorem dX11_made_106 : decode cX11_made 106 = .ok (.d2l, 1) := by decide +kernel
theorem dX11_made_107 : decode cX11_made 107 = .ok (.l2d, 1) := by decide +kernel
theorem dX11_made_108 : decode cX11_made 108 = .ok (.iload 6, 2) := by decide +kernel
theorem dX11_made_110 : decode cX11_made 110 = .ok (.i2d, 1) := by decide +kernel
theorem dX11_made_111 : decode cX11_made 111 = .ok (.ddiv, 1) := by decide +kernel
theorem dX11_made_112 : decode cX11_made 112 = .ok (.invokestatic 140, 3) := by decide +kernel
theorem dX11_made_115 : decode cX11_made 115 = .ok (.dreturn, 1) := by decide +kernel
set_option maxRecDepth 20000 in
theorem ggX11_make_X11_in : GoodIn wsX11_make wsX11_in := goodIn_r _ [6] (by decide +kernel) (by decide +kernel)
set_option maxRecDepth 20000 in
theorem gX11_make_X11_in : GoodIn wsX11_make (va_wsS RX11 93 yX11_in wsX11_in) := goodIn_app (goodIn_of _ (by decide +kernel)) ggX11_make_X11_in
set_option maxRecDepth 20000 in
theorem ggX11_make_X11_isFine : GoodIn wsX11_make wsX11_isFine := goodIn_r _ [9, 10, 11, 12, 13] (by decide +kernel) (by decide +kernel)
set_option maxRecDepth 20000 in
theorem gX11_make_X11_isFine : GoodIn wsX11_make (va_wsS RX11 105 yX11_isFine wsX11_isFine) := goodIn_app (goodIn_of _ (by decide +kernel)) ggX11_make_X11_isFine
set_option maxRecDepth 20000 in
theorem ggX11_make_X11_fails : GoodIn wsX11_make wsX11_fails := goodIn_r _ [16] (by decide +kernel) (by decide +kernel)
set_option maxRecDepth 20000 in
theorem gX11_make_X11_fails : GoodIn wsX11_make (va_wsS RX11 113 yX11_fails wsX11_fails) := goodIn_app (goodIn_of _ (by decide +kernel)) ggX11_make_X11_fails
set_option maxRecDepth 20000 in
theorem ggX11_make_X11_number : GoodIn wsX11_make wsX11_number := goodIn_r _ [19, 20, 21, 22, 23, 24, 25, 26, 27] (by decide +kernel) (by decide +kernel)
set_option maxRecDepth 20000 in
theorem gX11_make_X11_number : GoodIn wsX11_make (va_wsS RX11 117 yX11_number wsX11_number) := goodIn_app (goodIn_of _ (by decide +kernel)) ggX11_make_X11_number
set_option maxRecDepth 20000 in
theorem ggX11_make_X11_made : GoodIn wsX11_make wsX11_made := goodIn_r _ [31, 32, 33, 34, 35, 36, 37, 38, 5, 39, 40, 41, 42, 43, 69, 70, 71, 72, 73, 74, 75, 76, 77, 78, 79, 80, 81, 82, 83, 84, 85, 86, 87, 88, 89] (by decide +kernel) (by decide +kernel)
set_option maxRecDepth 20000 in
theorem gX11_make_X11_made : GoodIn wsX11_make (wsV RX11 150 RX11 yX11_made wsX11_made) := goodIn_app (goodIn_of _ (by decide +kernel)) ggX11_make_X11_made
set_option maxRecDepth 20000 in
theorem ggX11_make_X11_bitsOf : GoodIn wsX11_make wsX11_bitsOf := goodIn_r _ [46, 47, 48, 49, 50, 51, 52, 53, 23, 54, 55, 56, 57, 58, 59, 60, 61, 62, 63, 64, 27, 65, 66, 67, 68] (by decide +kernel) (by decide +kernel)
set_option maxRecDepth 20000 in
theorem gX11_make_X11_bitsOf : GoodIn wsX11_make (va_wsS RX11 125 yX11_bitsOf wsX11_bitsOf) := goodIn_app (goodIn_of _ (by decide +kernel)) ggX11_make_X11_bitsOf
theorem dX11_make_0 : decode cX11_make 0 = .ok (.iload_n 1, 1) := by decide +kernel
theorem dX11_make_1 : decode cX11_make 1 = .ok (.iconst 0, 1) := by decide +kernel
theorem dX11_make_2 : decode cX11_make 2 = .ok (.iconst 5, 1) := by decide +kernel
theorem dX11_make_3 : decode cX11_make 3 = .ok (.invokestatic 93, 3) := by decide +kernel
theorem dX11_make_6 : decode cX11_make 6 = .ok (.ifCond .eq 11, 3) := by decide +kernel
theorem dX11_make_9 : decode cX11_make 9 = .ok (.iconst 0, 1) := by decide +kernel
theorem dX11_make_10 : decode cX11_make 10 = .ok (.lload_n 2, 1) := by decide +kernel
theorem dX11_make_11 : decode cX11_make 11 = .ok (.invokestatic 105, 3) := by decide +kernel
theorem dX11_make_14 : decode cX11_make 14 = .ok (.ifCond .ne 5, 3) := by decide +kernel
theorem dX11_make_17 : decode cX11_make 17 = .ok (.iconst (-1), 1) := by decide +kernel
theorem dX11_make_18 : decode cX11_make 18 = .ok (.ireturn, 1) := by decide +kernel
theorem dX11_make_19 : decode cX11_make 19 = .ok (.aload_n 0, 1) := by decide +kernel
theorem dX11_make_20 : decode cX11_make 20 = .ok (.getfield 28, 3) := by decide +kernel
theorem dX11_make_23 : decode cX11_make 23 = .ok (.iload_n 1, 1) := by decide +kernel
theorem dX11_make_24 : decode cX11_make 24 = .ok (.iaload, 1) := by decide +kernel
theorem dX11_make_25 : decode cX11_make 25 = .ok (.ifCond .ge 8, 3) := by decide +kernel
theorem dX11_make_28 : decode cX11_make 28 = .ok (.iconst 1, 1) := by decide +kernel
theorem dX11_make_29 : decode cX11_make 29 = .ok (.invokestatic 113, 3) := by decide +kernel
theorem dX11_make_32 : decode cX11_make 32 = .ok (.ireturn, 1) := by decide +kernel
theorem dX11_make_33 : decode cX11_make 33 = .ok (.aload_n 0, 1) := by decide +kernel
theorem dX11_make_34 : decode cX11_make 34 = .ok (.iconst 0, 1) := by decide +kernel
theorem dX11_make_35 : decode cX11_make 35 = .ok (.aload_n 0, 1) := by decide +kernel
theorem dX11_make_36 : decode cX11_make 36 = .ok (.aload_n 0, 1) := by decide +kernel
theorem dX11_make_37 : decode cX11_make 37 = .ok (.getfield 28, 3) := by decide +kernel
theorem dX11_make_40 : decode cX11_make 40 = .ok (.iload_n 1, 1) := by decide +kernel
theorem dX11_make_41 : decode cX11_make 41 = .ok (.iaload, 1) := by decide +kernel
theorem dX11_make_42 : decode cX11_make 42 = .ok (.iconst 0, 1) := by decide +kernel
theorem dX11_make_43 : decode cX11_make 43 = .ok (.lload_n 2, 1) := by decide +kernel
theorem dX11_make_44 : decode cX11_make 44 = .ok (.invokestatic 117, 3) := by decide +kernel
theorem dX11_make_47 : decode cX11_make 47 = .ok (.invokevirtual 150, 3) := by decide +kernel
theorem dX11_make_50 : decode cX11_make 50 = .ok (.invokestatic 125, 3) := by decide +kernel
theorem dX11_make_53 : decode cX11_make 53 = .ok (.putfield 129, 3) := by decide +kernel
theorem dX11_make_56 : decode cX11_make 56 = .ok (.iconst 1, 1) := by decide +kernel
theorem dX11_make_57 : decode cX11_make 57 = .ok (.ireturn, 1) := by decide +kernel
theorem dX11_fits_0 : decode cX11_fits 0 = .ok (.iload_n 0, 1) := by decide +kernel
theorem dX11_fits_1 : decode cX11_fits 1 = .ok (.iload_n 1, 1) := by decide +kernel
theorem dX11_fits_2 : decode cX11_fits 2 = .ok (.if_icmp .eq 12, 3) := by decide +kernel
theorem dX11_fits_5 : decode cX11_fits 5 = .ok (.iload_n 0, 1) := by decide +kernel
theorem dX11_fits_6 : decode cX11_fits 6 = .ok (.iconst 1, 1) := by decide +kernel
theorem dX11_fits_7 : decode cX11_fits 7 = .ok (.if_icmp .ne 11, 3) := by decide +kernel
theorem dX11_fits_10 : decode cX11_fits 10 = .ok (.iload_n 1, 1) := by decide +kernel
theorem dX11_fits_11 : decode cX11_fits 11 = .ok (.ifCond .ne 7, 3) := by decide +kernel
theorem dX11_fits_14 : decode cX11_fits 14 = .ok (.iconst 1, 1) := by decide +kernel
theorem dX11_fits_15 : decode cX11_fits 15 = .ok (.goto 4, 3) := by decide +kernel
theorem dX11_fits_18 : decode cX11_fits 18 = .ok (.iconst 0, 1) := by decide +kernel
theorem dX11_fits_19 : decode cX11_fits 19 = .ok (.ireturn, 1) := by decide +kernel
set_option maxRecDepth 20000 in
theorem ggX11_rack_X11_in : GoodIn wsX11_rack wsX11_in := goodIn_r _ [6] (by decide +kernel) (by decide +kernel)
set_option maxRecDepth 20000 in
theorem gX11_rack_X11_in : GoodIn wsX11_rack (va_wsS RX11 93 yX11_in wsX11_in) := goodIn_app (goodIn_of _ (by decide +kernel)) ggX11_rack_X11_in
theorem dX11_rack_0 : decode cX11_rack 0 = .ok (.iload_n 1, 1) := by decide +kernel
theorem dX11_rack_1 : decode cX11_rack 1 = .ok (.iconst 0, 1) := by decide +kernel
theorem dX11_rack_2 : decode cX11_rack 2 = .ok (.iconst 2, 1) := by decide +kernel
theorem dX11_rack_3 : decode cX11_rack 3 = .ok (.invokestatic 93, 3) := by decide +kernel
theorem dX11_rack_6 : decode cX11_rack 6 = .ok (.ifCond .eq 12, 3) := by decide +kernel
theorem dX11_rack_9 : decode cX11_rack 9 = .ok (.iload_n 2, 1) := by decide +kernel
theorem dX11_rack_10 : decode cX11_rack 10 = .ok (.iconst 0, 1) := by decide +kernel
theorem dX11_rack_11 : decode cX11_rack 11 = .ok (.iconst 2, 1) := by decide +kernel
theorem dX11_rack_12 : decode cX11_rack 12 = .ok (.invokestatic 93, 3) := by decide +kernel
theorem dX11_rack_15 : decode cX11_rack 15 = .ok (.ifCond .ne 5, 3) := by decide +kernel
theorem dX11_rack_18 : decode cX11_rack 18 = .ok (.iconst (-1), 1) := by decide +kernel
theorem dX11_rack_19 : decode cX11_rack 19 = .ok (.ireturn, 1) := by decide +kernel
theorem dX11_rack_20 : decode cX11_rack 20 = .ok (.aload_n 0, 1) := by decide +kernel
theorem dX11_rack_21 : decode cX11_rack 21 = .ok (.getfield 31, 3) := by decide +kernel
theorem dX11_rack_24 : decode cX11_rack 24 = .ok (.iload_n 1, 1) := by decide +kernel
theorem dX11_rack_25 : decode cX11_rack 25 = .ok (.iload_n 2, 1) := by decide +kernel
theorem dX11_rack_26 : decode cX11_rack 26 = .ok (.iastore, 1) := by decide +kernel
theorem dX11_rack_27 : decode cX11_rack 27 = .ok (.iconst 0, 1) := by decide +kernel
theorem dX11_rack_28 : decode cX11_rack 28 = .ok (.istore_n 3, 1) := by decide +kernel
theorem dX11_rack_29 : decode cX11_rack 29 = .ok (.iload_n 3, 1) := by decide +kernel
theorem dX11_rack_30 : decode cX11_rack 30 = .ok (.iconst 3, 1) := by decide +kernel
theorem dX11_rack_31 : decode cX11_rack 31 = .ok (.if_icmp .ge 20, 3) := by decide +kernel
theorem dX11_rack_34 : decode cX11_rack 34 = .ok (.aload_n 0, 1) := by decide +kernel
theorem dX11_rack_35 : decode cX11_rack 35 = .ok (.getfield 34, 3) := by decide +kernel
theorem dX11_rack_38 : decode cX11_rack 38 = .ok (.iconst 3, 1) := by decide +kernel
theorem dX11_rack_39 : decode cX11_rack 39 = .ok (.iload_n 1, 1) := by decide +kernel
theorem dX11_rack_40 : decode cX11_rack 40 = .ok (.imul, 1) := by decide +kernel
theorem dX11_rack_41 : decode cX11_rack 41 = .ok (.iload_n 3, 1) := by decide +kernel
theorem dX11_rack_42 : decode cX11_rack 42 = .ok (.iadd, 1) := by decide +kernel
theorem dX11_rack_43 : decode cX11_rack 43 = .ok (.iconst (-1), 1) := by decide +kernel
theorem dX11_rack_44 : decode cX11_rack 44 = .ok (.iastore, 1) := by decide +kernel
theorem dX11_rack_45 : decode cX11_rack 45 = .ok (.iinc 3 1, 3) := by decide +kernel
theorem dX11_rack_48 : decode cX11_rack 48 = .ok (.goto (-19), 3) := by decide +kernel
theorem dX11_rack_51 : decode cX11_rack 51 = .ok (.iconst 1, 1) := by decide +kernel
theorem dX11_rack_52 : decode cX11_rack 52 = .ok (.ireturn, 1) := by decide +kernel
set_option maxRecDepth 20000 in
theorem ggX11_hang_X11_in : GoodIn wsX11_hang wsX11_in := goodIn_r _ [8] (by decide +kernel) (by decide +kernel)
set_option maxRecDepth 20000 in
theorem gX11_hang_X11_in : GoodIn wsX11_hang (va_wsS RX11 93 yX11_in wsX11_in) := goodIn_app (goodIn_of _ (by decide +kernel)) ggX11_hang_X11_in
set_option maxRecDepth 20000 in
theorem ggX11_hang_X11_fails : GoodIn wsX11_hang wsX11_fails := goodIn_r _ [11] (by decide +kernel) (by decide +kernel)
set_option maxRecDepth 20000 in
theorem gX11_hang_X11_fails : GoodIn wsX11_hang (va_wsS RX11 113 yX11_fails wsX11_fails) := goodIn_app (goodIn_of _ (by decide +kernel)) ggX11_hang_X11_fails
set_option maxRecDepth 20000 in
theorem ggX11_hang_X11_fits : GoodIn wsX11_hang wsX11_fits := goodIn_r _ [14] (by decide +kernel) (by decide +kernel)
set_option maxRecDepth 20000 in
theorem gX11_hang_X11_fits : GoodIn wsX11_hang (va_wsS RX11 154 yX11_fits wsX11_fits) := goodIn_app (goodIn_of _ (by decide +kernel)) ggX11_hang_X11_fits
theorem dX11_hang_0 : decode cX11_hang 0 = .ok (.iload_n 1, 1) := by decide +kernel
theorem dX11_hang_1 : decode cX11_hang 1 = .ok (.iconst 0, 1) := by decide +kernel
theorem dX11_hang_2 : decode cX11_hang 2 = .ok (.iconst 2, 1) := by decide +kernel
theorem dX11_hang_3 : decode cX11_hang 3 = .ok (.invokestatic 93, 3) := by decide +kernel
theorem dX11_hang_6 : decode cX11_hang 6 = .ok (.ifCond .eq 12, 3) := by decide +kernel
theorem dX11_hang_9 : decode cX11_hang 9 = .ok (.iload_n 3, 1) := by decide +kernel
theorem dX11_hang_10 : decode cX11_hang 10 = .ok (.iconst 0, 1) := by decide +kernel
theorem dX11_hang_11 : decode cX11_hang 11 = .ok (.iconst 5, 1) := by decide +kernel
theorem dX11_hang_12 : decode cX11_hang 12 = .ok (.invokestatic 93, 3) := by decide +kernel
theorem dX11_hang_15 : decode cX11_hang 15 = .ok (.ifCond .ne 5, 3) := by decide +kernel
theorem dX11_hang_18 : decode cX11_hang 18 = .ok (.iconst (-1), 1) := by decide +kernel
theorem dX11_hang_19 : decode cX11_hang 19 = .ok (.ireturn, 1) := by decide +kernel
theorem dX11_hang_20 : decode cX11_hang 20 = .ok (.aload_n 0, 1) := by decide +kernel
theorem dX11_hang_21 : decode cX11_hang 21 = .ok (.getfield 31, 3) := by decide +kernel
theorem dX11_hang_24 : decode cX11_hang 24 = .ok (.iload_n 1, 1) := by decide +kernel
theorem dX11_hang_25 : decode cX11_hang 25 = .ok (.iaload, 1) := by decide +kernel
theorem dX11_hang_26 : decode cX11_hang 26 = .ok (.ifCond .ge 8, 3) := by decide +kernel
theorem dX11_hang_29 : decode cX11_hang 29 = .ok (.iconst 1, 1) := by decide +kernel
theorem dX11_hang_30 : decode cX11_hang 30 = .ok (.invokestatic 113, 3) := by decide +kernel
theorem dX11_hang_33 : decode cX11_hang 33 = .ok (.ireturn, 1) := by decide +kernel
theorem dX11_hang_34 : decode cX11_hang 34 = .ok (.iload_n 2, 1) := by decide +kernel
theorem dX11_hang_35 : decode cX11_hang 35 = .ok (.iconst 0, 1) := by decide +kernel
theorem dX11_hang_36 : decode cX11_hang 36 = .ok (.iconst 2, 1) := by decide +kernel
theorem dX11_hang_37 : decode cX11_hang 37 = .ok (.invokestatic 93, 3) := by decide +kernel
theorem dX11_hang_40 : decode cX11_hang 40 = .ok (.ifCond .ne 8, 3) := by decide +kernel
theorem dX11_hang_43 : decode cX11_hang 43 = .ok (.iconst 2, 1) := by decide +kernel
theorem dX11_hang_44 : decode cX11_hang 44 = .ok (.invokestatic 113, 3) := by decide +kernel
theorem dX11_hang_47 : decode cX11_hang 47 = .ok (.ireturn, 1) := by decide +kernel
theorem dX11_hang_48 : decode cX11_hang 48 = .ok (.aload_n 0, 1) := by decide +kernel
theorem dX11_hang_49 : decode cX11_hang 49 = .ok (.getfield 28, 3) := by decide +kernel
theorem dX11_hang_52 : decode cX11_hang 52 = .ok (.iload_n 3, 1) := by decide +kernel
theorem dX11_hang_53 : decode cX11_hang 53 = .ok (.iaload, 1) := by decide +kernel
theorem dX11_hang_54 : decode cX11_hang 54 = .ok (.istore 4, 2) := by decide +kernel
theorem dX11_hang_56 : decode cX11_hang 56 = .ok (.iload 4, 2) := by decide +kernel
theorem dX11_hang_58 : decode cX11_hang 58 = .ok (.ifCond .lt 27, 3) := by decide +kernel
theorem dX11_hang_61 : decode cX11_hang 61 = .ok (.aload_n 0, 1) := by decide +kernel
theorem dX11_hang_62 : decode cX11_hang 62 = .ok (.getfield 22, 3) := by decide +kernel
theorem dX11_hang_65 : decode cX11_hang 65 = .ok (.iload 4, 2) := by decide +kernel
theorem dX11_hang_67 : decode cX11_hang 67 = .ok (.iaload, 1) := by decide +kernel
theorem dX11_hang_68 : decode cX11_hang 68 = .ok (.aload_n 0, 1) := by decide +kernel
theorem dX11_hang_69 : decode cX11_hang 69 = .ok (.getfield 31, 3) := by decide +kernel
theorem dX11_hang_72 : decode cX11_hang 72 = .ok (.iload_n 1, 1) := by decide +kernel
theorem dX11_hang_73 : decode cX11_hang 73 = .ok (.iaload, 1) := by decide +kernel
theorem dX11_hang_74 : decode cX11_hang 74 = .ok (.invokestatic 154, 3) := by decide +kernel
theorem dX11_hang_77 : decode cX11_hang 77 = .ok (.ifCond .ne 8, 3) := by decide +kernel
theorem dX11_hang_80 : decode cX11_hang 80 = .ok (.iconst 4, 1) := by decide +kernel
theorem dX11_hang_81 : decode cX11_hang 81 = .ok (.invokestatic 113, 3) := by decide +kernel
theorem dX11_hang_84 : decode cX11_hang 84 = .ok (.ireturn, 1) := by decide +kernel
theorem dX11_hang_85 : decode cX11_hang 85 = .ok (.aload_n 0, 1) := by decide +kernel
theorem dX11_hang_86 : decode cX11_hang 86 = .ok (.getfield 34, 3) := by decide +kernel
theorem dX11_hang_89 : decode cX11_hang 89 = .ok (.iconst 3, 1) := by decide +kernel
theorem dX11_hang_90 : decode cX11_hang 90 = .ok (.iload_n 1, 1) := by decide +kernel
theorem dX11_hang_91 : decode cX11_hang 91 = .ok (.imul, 1) := by decide +kernel
theorem dX11_hang_92 : decode cX11_hang 92 = .ok (.iload_n 2, 1) := by decide +kernel
theorem dX11_hang_93 : decode cX11_hang 93 = .ok (.iadd, 1) := by decide +kernel
theorem dX11_hang_94 : decode cX11_hang 94 = .ok (.iload 4, 2) := by decide +kernel
theorem dX11_hang_96 : decode cX11_hang 96 = .ok (.iastore, 1) := by decide +kernel
theorem dX11_hang_97 : decode cX11_hang 97 = .ok (.iconst 1, 1) := by decide +kernel
theorem dX11_hang_98 : decode cX11_hang 98 = .ok (.ireturn, 1) := by decide +kernel
set_option maxRecDepth 20000 in
theorem ggX11_take_X11_in : GoodIn wsX11_take wsX11_in := goodIn_r _ [8] (by decide +kernel) (by decide +kernel)
set_option maxRecDepth 20000 in
theorem gX11_take_X11_in : GoodIn wsX11_take (va_wsS RX11 93 yX11_in wsX11_in) := goodIn_app (goodIn_of _ (by decide +kernel)) ggX11_take_X11_in
set_option maxRecDepth 20000 in
theorem ggX11_take_X11_fails : GoodIn wsX11_take wsX11_fails := goodIn_r _ [11] (by decide +kernel) (by decide +kernel)
set_option maxRecDepth 20000 in
theorem gX11_take_X11_fails : GoodIn wsX11_take (va_wsS RX11 113 yX11_fails wsX11_fails) := goodIn_app (goodIn_of _ (by decide +kernel)) ggX11_take_X11_fails
set_option maxRecDepth 20000 in
theorem ggX11_take_X11_fits : GoodIn wsX11_take wsX11_fits := goodIn_r _ [14] (by decide +kernel) (by decide +kernel)
set_option maxRecDepth 20000 in
theorem gX11_take_X11_fits : GoodIn wsX11_take (va_wsS RX11 154 yX11_fits wsX11_fits) := goodIn_app (goodIn_of _ (by decide +kernel)) ggX11_take_X11_fits
theorem dX11_take_0 : decode cX11_take 0 = .ok (.iload_n 1, 1) := by decide +kernel
theorem dX11_take_1 : decode cX11_take 1 = .ok (.iconst 0, 1) := by decide +kernel
theorem dX11_take_2 : decode cX11_take 2 = .ok (.iconst 2, 1) := by decide +kernel
theorem dX11_take_3 : decode cX11_take 3 = .ok (.invokestatic 93, 3) := by decide +kernel
theorem dX11_take_6 : decode cX11_take 6 = .ok (.ifCond .eq 22, 3) := by decide +kernel
theorem dX11_take_9 : decode cX11_take 9 = .ok (.iload_n 3, 1) := by decide +kernel
theorem dX11_take_10 : decode cX11_take 10 = .ok (.iconst 0, 1) := by decide +kernel
theorem dX11_take_11 : decode cX11_take 11 = .ok (.iconst 2, 1) := by decide +kernel
theorem dX11_take_12 : decode cX11_take 12 = .ok (.invokestatic 93, 3) := by decide +kernel
theorem dX11_take_15 : decode cX11_take 15 = .ok (.ifCond .eq 13, 3) := by decide +kernel
theorem dX11_take_18 : decode cX11_take 18 = .ok (.iload 4, 2) := by decide +kernel
theorem dX11_take_20 : decode cX11_take 20 = .ok (.iconst 0, 1) := by decide +kernel
theorem dX11_take_21 : decode cX11_take 21 = .ok (.iconst 5, 1) := by decide +kernel
theorem dX11_take_22 : decode cX11_take 22 = .ok (.invokestatic 93, 3) := by decide +kernel
theorem dX11_take_25 : decode cX11_take 25 = .ok (.ifCond .ne 5, 3) := by decide +kernel
theorem dX11_take_28 : decode cX11_take 28 = .ok (.iconst (-1), 1) := by decide +kernel
theorem dX11_take_29 : decode cX11_take 29 = .ok (.ireturn, 1) := by decide +kernel
theorem dX11_take_30 : decode cX11_take 30 = .ok (.aload_n 0, 1) := by decide +kernel
theorem dX11_take_31 : decode cX11_take 31 = .ok (.getfield 31, 3) := by decide +kernel
theorem dX11_take_34 : decode cX11_take 34 = .ok (.iload_n 1, 1) := by decide +kernel
theorem dX11_take_35 : decode cX11_take 35 = .ok (.iaload, 1) := by decide +kernel
theorem dX11_take_36 : decode cX11_take 36 = .ok (.ifCond .ge 8, 3) := by decide +kernel
theorem dX11_take_39 : decode cX11_take 39 = .ok (.iconst 1, 1) := by decide +kernel
theorem dX11_take_40 : decode cX11_take 40 = .ok (.invokestatic 113, 3) := by decide +kernel
theorem dX11_take_43 : decode cX11_take 43 = .ok (.ireturn, 1) := by decide +kernel
theorem dX11_take_44 : decode cX11_take 44 = .ok (.iload_n 2, 1) := by decide +kernel
theorem dX11_take_45 : decode cX11_take 45 = .ok (.iconst 0, 1) := by decide +kernel
theorem dX11_take_46 : decode cX11_take 46 = .ok (.iconst 2, 1) := by decide +kernel
theorem dX11_take_47 : decode cX11_take 47 = .ok (.invokestatic 93, 3) := by decide +kernel
theorem dX11_take_50 : decode cX11_take 50 = .ok (.ifCond .ne 8, 3) := by decide +kernel
theorem dX11_take_53 : decode cX11_take 53 = .ok (.iconst 2, 1) := by decide +kernel
theorem dX11_take_54 : decode cX11_take 54 = .ok (.invokestatic 113, 3) := by decide +kernel
theorem dX11_take_57 : decode cX11_take 57 = .ok (.ireturn, 1) := by decide +kernel
theorem dX11_take_58 : decode cX11_take 58 = .ok (.aload_n 0, 1) := by decide +kernel
theorem dX11_take_59 : decode cX11_take 59 = .ok (.getfield 34, 3) := by decide +kernel
theorem dX11_take_62 : decode cX11_take 62 = .ok (.iconst 3, 1) := by decide +kernel
theorem dX11_take_63 : decode cX11_take 63 = .ok (.iload_n 1, 1) := by decide +kernel
theorem dX11_take_64 : decode cX11_take 64 = .ok (.imul, 1) := by decide +kernel
theorem dX11_take_65 : decode cX11_take 65 = .ok (.iload_n 2, 1) := by decide +kernel
theorem dX11_take_66 : decode cX11_take 66 = .ok (.iadd, 1) := by decide +kernel
theorem dX11_take_67 : decode cX11_take 67 = .ok (.iaload, 1) := by decide +kernel
theorem dX11_take_68 : decode cX11_take 68 = .ok (.istore 5, 2) := by decide +kernel
theorem dX11_take_70 : decode cX11_take 70 = .ok (.iload 5, 2) := by decide +kernel
theorem dX11_take_72 : decode cX11_take 72 = .ok (.ifCond .lt 22, 3) := by decide +kernel
theorem dX11_take_75 : decode cX11_take 75 = .ok (.aload_n 0, 1) := by decide +kernel
theorem dX11_take_76 : decode cX11_take 76 = .ok (.getfield 22, 3) := by decide +kernel
theorem dX11_take_79 : decode cX11_take 79 = .ok (.iload 5, 2) := by decide +kernel
theorem dX11_take_81 : decode cX11_take 81 = .ok (.iaload, 1) := by decide +kernel
theorem dX11_take_82 : decode cX11_take 82 = .ok (.iload_n 3, 1) := by decide +kernel
theorem dX11_take_83 : decode cX11_take 83 = .ok (.invokestatic 154, 3) := by decide +kernel
theorem dX11_take_86 : decode cX11_take 86 = .ok (.ifCond .ne 8, 3) := by decide +kernel
theorem dX11_take_89 : decode cX11_take 89 = .ok (.iconst 3, 1) := by decide +kernel
theorem dX11_take_90 : decode cX11_take 90 = .ok (.invokestatic 113, 3) := by decide +kernel
theorem dX11_take_93 : decode cX11_take 93 = .ok (.ireturn, 1) := by decide +kernel
theorem dX11_take_94 : decode cX11_take 94 = .ok (.aload_n 0, 1) := by decide +kernel
theorem dX11_take_95 : decode cX11_take 95 = .ok (.getfield 28, 3) := by decide +kernel
theorem dX11_take_98 : decode cX11_take 98 = .ok (.iload 4, 2) := by decide +kernel
theorem dX11_take_100 : decode cX11_take 100 = .ok (.iload 5, 2) := by decide +kernel
theorem dX11_take_102 : decode cX11_take 102 = .ok (.iastore, 1) := by decide +kernel
theorem dX11_take_103 : decode cX11_take 103 = .ok (.iload 5, 2) := by decide +kernel
theorem dX11_take_105 : decode cX11_take 105 = .ok (.ifCond .ge 7, 3) := by decide +kernel
theorem dX11_take_108 : decode cX11_take 108 = .ok (.iconst 0, 1) := by decide +kernel
theorem dX11_take_109 : decode cX11_take 109 = .ok (.goto 4, 3) := by decide +kernel
theorem dX11_take_112 : decode cX11_take 112 = .ok (.iconst 1, 1) := by decide +kernel
theorem dX11_take_113 : decode cX11_take 113 = .ok (.ireturn, 1) := by decide +kernel
set_option maxRecDepth 20000 in
theorem ggX11_head_X11_in : GoodIn wsX11_head wsX11_in := goodIn_r _ [17] (by decide +kernel) (by decide +kernel)
set_option maxRecDepth 20000 in
theorem gX11_head_X11_in : GoodIn wsX11_head (va_wsS RX11 93 yX11_in wsX11_in) := goodIn_app (goodIn_of _ (by decide +kernel)) ggX11_head_X11_in
set_option maxRecDepth 20000 in
theorem ggX11_head_X11_isFine : GoodIn wsX11_head wsX11_isFine := goodIn_r _ [20, 21, 22, 23, 24] (by decide +kernel) (by decide +kernel)
set_option maxRecDepth 20000 in
theorem gX11_head_X11_isFine : GoodIn wsX11_head (va_wsS RX11 105 yX11_isFine wsX11_isFine) := goodIn_app (goodIn_of _ (by decide +kernel)) ggX11_head_X11_isFine
theorem dX11_head_0 : decode cX11_head 0 = .ok (.iload_n 1, 1) := by decide +kernel
theorem dX11_head_1 : decode cX11_head 1 = .ok (.iconst 0, 1) := by decide +kernel
theorem dX11_head_2 : decode cX11_head 2 = .ok (.iconst 3, 1) := by decide +kernel
theorem dX11_head_3 : decode cX11_head 3 = .ok (.invokestatic 93, 3) := by decide +kernel
theorem dX11_head_6 : decode cX11_head 6 = .ok (.ifCond .eq 40, 3) := by decide +kernel
theorem dX11_head_9 : decode cX11_head 9 = .ok (.iload_n 2, 1) := by decide +kernel
theorem dX11_head_10 : decode cX11_head 10 = .ok (.iconst 0, 1) := by decide +kernel
theorem dX11_head_11 : decode cX11_head 11 = .ok (.iconst 5, 1) := by decide +kernel
theorem dX11_head_12 : decode cX11_head 12 = .ok (.invokestatic 93, 3) := by decide +kernel
theorem dX11_head_15 : decode cX11_head 15 = .ok (.ifCond .eq 31, 3) := by decide +kernel
theorem dX11_head_18 : decode cX11_head 18 = .ok (.iload_n 3, 1) := by decide +kernel
theorem dX11_head_19 : decode cX11_head 19 = .ok (.iconst (-1), 1) := by decide +kernel
theorem dX11_head_20 : decode cX11_head 20 = .ok (.iconst 5, 1) := by decide +kernel
theorem dX11_head_21 : decode cX11_head 21 = .ok (.invokestatic 93, 3) := by decide +kernel
theorem dX11_head_24 : decode cX11_head 24 = .ok (.ifCond .eq 22, 3) := by decide +kernel
theorem dX11_head_27 : decode cX11_head 27 = .ok (.iload 4, 2) := by decide +kernel
theorem dX11_head_29 : decode cX11_head 29 = .ok (.iconst (-1), 1) := by decide +kernel
theorem dX11_head_30 : decode cX11_head 30 = .ok (.iconst 2, 1) := by decide +kernel
theorem dX11_head_31 : decode cX11_head 31 = .ok (.invokestatic 93, 3) := by decide +kernel
theorem dX11_head_34 : decode cX11_head 34 = .ok (.ifCond .eq 12, 3) := by decide +kernel
theorem dX11_head_37 : decode cX11_head 37 = .ok (.iconst 1, 1) := by decide +kernel
theorem dX11_head_38 : decode cX11_head 38 = .ok (.lload 5, 2) := by decide +kernel
theorem dX11_head_40 : decode cX11_head 40 = .ok (.invokestatic 105, 3) := by decide +kernel
theorem dX11_head_43 : decode cX11_head 43 = .ok (.ifCond .ne 5, 3) := by decide +kernel
theorem dX11_head_46 : decode cX11_head 46 = .ok (.iconst (-1), 1) := by decide +kernel
theorem dX11_head_47 : decode cX11_head 47 = .ok (.ireturn, 1) := by decide +kernel
theorem dX11_head_48 : decode cX11_head 48 = .ok (.lload 5, 2) := by decide +kernel
theorem dX11_head_50 : decode cX11_head 50 = .ok (.invokestatic 69, 3) := by decide +kernel
theorem dX11_head_53 : decode cX11_head 53 = .ok (.dstore 7, 2) := by decide +kernel
theorem dX11_head_55 : decode cX11_head 55 = .ok (.dload 7, 2) := by decide +kernel
theorem dX11_head_57 : decode cX11_head 57 = .ok (.ldc2_w 158, 3) := by decide +kernel
theorem dX11_head_60 : decode cX11_head 60 = .ok (.dcmp .g, 1) := by decide +kernel
theorem dX11_head_61 : decode cX11_head 61 = .ok (.ifCond .lt 12, 3) := by decide +kernel
theorem dX11_head_64 : decode cX11_head 64 = .ok (.dload 7, 2) := by decide +kernel
theorem dX11_head_66 : decode cX11_head 66 = .ok (.ldc2_w 160, 3) := by decide +kernel
theorem dX11_head_69 : decode cX11_head 69 = .ok (.dcmp .l, 1) := by decide +kernel
theorem dX11_head_70 : decode cX11_head 70 = .ok (.ifCond .le 5, 3) := by decide +kernel
theorem dX11_head_73 : decode cX11_head 73 = .ok (.iconst (-1), 1) := by decide +kernel
theorem dX11_head_74 : decode cX11_head 74 = .ok (.ireturn, 1) := by decide +kernel
theorem dX11_head_75 : decode cX11_head 75 = .ok (.aload_n 0, 1) := by decide +kernel
theorem dX11_head_76 : decode cX11_head 76 = .ok (.getfield 37, 3) := by decide +kernel
theorem dX11_head_79 : decode cX11_head 79 = .ok (.iload_n 1, 1) := by decide +kernel
theorem dX11_head_80 : decode cX11_head 80 = .ok (.iconst 1, 1) := by decide +kernel
theorem dX11_head_81 : decode cX11_head 81 = .ok (.bastore, 1) := by decide +kernel
theorem dX11_head_82 : decode cX11_head 82 = .ok (.aload_n 0, 1) := by decide +kernel
theorem dX11_head_83 : decode cX11_head 83 = .ok (.getfield 41, 3) := by decide +kernel
theorem dX11_head_86 : decode cX11_head 86 = .ok (.iload_n 1, 1) := by decide +kernel
theorem dX11_head_87 : decode cX11_head 87 = .ok (.iload_n 2, 1) := by decide +kernel
theorem dX11_head_88 : decode cX11_head 88 = .ok (.iastore, 1) := by decide +kernel
theorem dX11_head_89 : decode cX11_head 89 = .ok (.aload_n 0, 1) := by decide +kernel
theorem dX11_head_90 : decode cX11_head 90 = .ok (.getfield 44, 3) := by decide +kernel
theorem dX11_head_93 : decode cX11_head 93 = .ok (.iload_n 1, 1) := by decide +kernel
theorem dX11_head_94 : decode cX11_head 94 = .ok (.iload_n 3, 1) := by decide +kernel
theorem dX11_head_95 : decode cX11_head 95 = .ok (.iastore, 1) := by decide +kernel
theorem dX11_head_96 : decode cX11_head 96 = .ok (.aload_n 0, 1) := by decide +kernel
theorem dX11_head_97 : decode cX11_head 97 = .ok (.getfield 47, 3) := by decide +kernel
theorem dX11_head_100 : decode cX11_head 100 = .ok (.iload_n 1, 1) := by decide +kernel
theorem dX11_head_101 : decode cX11_head 101 = .ok (.iload 4, 2) := by decide +kernel
theorem dX11_head_103 : decode cX11_head 103 = .ok (.iastore, 1) := by decide +kernel
theorem dX11_head_104 : decode cX11_head 104 = .ok (.aload_n 0, 1) := by decide +kernel
theorem dX11_head_105 : decode cX11_head 105 = .ok (.getfield 50, 3) := by decide +kernel
theorem dX11_head_108 : decode cX11_head 108 = .ok (.iload_n 1, 1) := by decide +kernel
theorem dX11_head_109 : decode cX11_head 109 = .ok (.dload 7, 2) := by decide +kernel
theorem dX11_head_111 : decode cX11_head 111 = .ok (.dastore, 1) := by decide +kernel
theorem dX11_head_112 : decode cX11_head 112 = .ok (.aload_n 0, 1) := by decide +kernel
theorem dX11_head_113 : decode cX11_head 113 = .ok (.getfield 53, 3) := by decide +kernel
theorem dX11_head_116 : decode cX11_head 116 = .ok (.iload_n 1, 1) := by decide +kernel
theorem dX11_head_117 : decode cX11_head 117 = .ok (.dconst 0, 1) := by decide +kernel
theorem dX11_head_118 : decode cX11_head 118 = .ok (.dastore, 1) := by decide +kernel
theorem dX11_head_119 : decode cX11_head 119 = .ok (.aload_n 0, 1) := by decide +kernel
theorem dX11_head_120 : decode cX11_head 120 = .ok (.getfield 56, 3) := by decide +kernel
theorem dX11_head_123 : decode cX11_head 123 = .ok (.iload_n 1, 1) := by decide +kernel
theorem dX11_head_124 : decode cX11_head 124 = .ok (.lconst 0, 1) := by decide +kernel
theorem dX11_head_125 : decode cX11_head 125 = .ok (.lastore, 1) := by decide +kernel
theorem dX11_head_126 : decode cX11_head 126 = .ok (.iconst 1, 1) := by decide +kernel
theorem dX11_head_127 : decode cX11_head 127 = .ok (.ireturn, 1) := by decide +kernel
set_option maxRecDepth 20000 in
theorem ggX11_step_X11_asked : GoodIn wsX11_step wsX11_asked := goodIn_r _ [18, 4, 5, 19, 20, 17, 21, 22, 23, 24, 45, 46, 47, 48, 49, 50, 51, 52, 53, 54, 55, 56, 57, 58, 59, 60, 61, 62, 63, 64, 65] (by decide +kernel) (by decide +kernel)
set_option maxRecDepth 20000 in
theorem gX11_step_X11_asked : GoodIn wsX11_step (wsV RX11 109 RX11 yX11_asked wsX11_asked) := goodIn_app (goodIn_of _ (by decide +kernel)) ggX11_step_X11_asked
set_option maxRecDepth 20000 in
theorem ggX11_step_X11_item : GoodIn wsX11_step wsX11_item := goodIn_r _ [28, 6, 4, 19, 20, 17, 21, 45, 46, 47, 48, 49, 50, 51, 52, 53, 54, 55, 56, 57, 58, 59, 60, 61, 62, 63, 64, 65] (by decide +kernel) (by decide +kernel)
set_option maxRecDepth 20000 in
theorem gX11_step_X11_item : GoodIn wsX11_step (wsV RX11 121 RX11 yX11_item wsX11_item) := goodIn_app (goodIn_of _ (by decide +kernel)) ggX11_step_X11_item
set_option maxRecDepth 20000 in
theorem ggX11_step_X11_held : GoodIn wsX11_step wsX11_held := goodIn_r _ [31, 32, 33, 34, 35] (by decide +kernel) (by decide +kernel)
set_option maxRecDepth 20000 in
theorem gX11_step_X11_held : GoodIn wsX11_step (va_wsS RX11 140 yX11_held wsX11_held) := goodIn_app (goodIn_of _ (by decide +kernel)) ggX11_step_X11_held
set_option maxRecDepth 20000 in
theorem ggX11_step_X11_made : GoodIn wsX11_step wsX11_made := goodIn_r _ [39, 40, 41, 42, 43, 44, 29, 30, 17, 31, 32, 33, 34, 35, 45, 46, 47, 48, 49, 50, 51, 52, 53, 54, 55, 56, 57, 58, 59, 60, 61, 62, 63, 64, 65] (by decide +kernel) (by decide +kernel)
set_option maxRecDepth 20000 in
theorem gX11_step_X11_made : GoodIn wsX11_step (wsV RX11 150 RX11 yX11_made wsX11_made) := goodIn_app (goodIn_of _ (by decide +kernel)) ggX11_step_X11_made
theorem dX11_step_0 : decode cX11_step 0 = .ok (.aload_n 0, 1) := by decide +kernel
theorem dX11_step_1 : decode cX11_step 1 = .ok (.getfield 53, 3) := by decide +kernel
theorem dX11_step_4 : decode cX11_step 4 = .ok (.iload_n 1, 1) := by decide +kernel
theorem dX11_step_5 : decode cX11_step 5 = .ok (.daload, 1) := by decide +kernel
theorem dX11_step_6 : decode cX11_step 6 = .ok (.d2i, 1) := by decide +kernel
theorem dX11_step_7 : decode cX11_step 7 = .ok (.istore_n 2, 1) := by decide +kernel
theorem dX11_step_8 : decode cX11_step 8 = .ok (.aload_n 0, 1) := by decide +kernel
theorem dX11_step_9 : decode cX11_step 9 = .ok (.iconst 0, 1) := by decide +kernel
theorem dX11_step_10 : decode cX11_step 10 = .ok (.aload_n 0, 1) := by decide +kernel
theorem dX11_step_11 : decode cX11_step 11 = .ok (.getfield 41, 3) := by decide +kernel
theorem dX11_step_14 : decode cX11_step 14 = .ok (.iload_n 1, 1) := by decide +kernel
theorem dX11_step_15 : decode cX11_step 15 = .ok (.iaload, 1) := by decide +kernel
theorem dX11_step_16 : decode cX11_step 16 = .ok (.iload_n 2, 1) := by decide +kernel
theorem dX11_step_17 : decode cX11_step 17 = .ok (.invokevirtual 109, 3) := by decide +kernel
theorem dX11_step_20 : decode cX11_step 20 = .ok (.istore_n 3, 1) := by decide +kernel
theorem dX11_step_21 : decode cX11_step 21 = .ok (.iload_n 3, 1) := by decide +kernel
theorem dX11_step_22 : decode cX11_step 22 = .ok (.ifCond .eq 5, 3) := by decide +kernel
theorem dX11_step_25 : decode cX11_step 25 = .ok (.iload_n 3, 1) := by decide +kernel
theorem dX11_step_26 : decode cX11_step 26 = .ok (.ireturn, 1) := by decide +kernel
theorem dX11_step_27 : decode cX11_step 27 = .ok (.aload_n 0, 1) := by decide +kernel
theorem dX11_step_28 : decode cX11_step 28 = .ok (.iconst 0, 1) := by decide +kernel
theorem dX11_step_29 : decode cX11_step 29 = .ok (.aload_n 0, 1) := by decide +kernel
theorem dX11_step_30 : decode cX11_step 30 = .ok (.getfield 41, 3) := by decide +kernel
theorem dX11_step_33 : decode cX11_step 33 = .ok (.iload_n 1, 1) := by decide +kernel
theorem dX11_step_34 : decode cX11_step 34 = .ok (.iaload, 1) := by decide +kernel
theorem dX11_step_35 : decode cX11_step 35 = .ok (.iload_n 2, 1) := by decide +kernel
theorem dX11_step_36 : decode cX11_step 36 = .ok (.invokevirtual 121, 3) := by decide +kernel
theorem dX11_step_39 : decode cX11_step 39 = .ok (.dstore 4, 2) := by decide +kernel
theorem dX11_step_41 : decode cX11_step 41 = .ok (.aload_n 0, 1) := by decide +kernel
theorem dX11_step_42 : decode cX11_step 42 = .ok (.getfield 44, 3) := by decide +kernel
theorem dX11_step_45 : decode cX11_step 45 = .ok (.iload_n 1, 1) := by decide +kernel
theorem dX11_step_46 : decode cX11_step 46 = .ok (.iaload, 1) := by decide +kernel
theorem dX11_step_47 : decode cX11_step 47 = .ok (.ifCond .lt 80, 3) := by decide +kernel
theorem dX11_step_50 : decode cX11_step 50 = .ok (.aload_n 0, 1) := by decide +kernel
theorem dX11_step_51 : decode cX11_step 51 = .ok (.getfield 19, 3) := by decide +kernel
theorem dX11_step_54 : decode cX11_step 54 = .ok (.bipush 6, 2) := by decide +kernel
theorem dX11_step_56 : decode cX11_step 56 = .ok (.aload_n 0, 1) := by decide +kernel
theorem dX11_step_57 : decode cX11_step 57 = .ok (.getfield 44, 3) := by decide +kernel
theorem dX11_step_60 : decode cX11_step 60 = .ok (.iload_n 1, 1) := by decide +kernel
theorem dX11_step_61 : decode cX11_step 61 = .ok (.iaload, 1) := by decide +kernel
theorem dX11_step_62 : decode cX11_step 62 = .ok (.iadd, 1) := by decide +kernel
theorem dX11_step_63 : decode cX11_step 63 = .ok (.iaload, 1) := by decide +kernel
theorem dX11_step_64 : decode cX11_step 64 = .ok (.istore 6, 2) := by decide +kernel
theorem dX11_step_66 : decode cX11_step 66 = .ok (.iload 6, 2) := by decide +kernel
theorem dX11_step_68 : decode cX11_step 68 = .ok (.ifCond .lt 13, 3) := by decide +kernel
theorem dX11_step_71 : decode cX11_step 71 = .ok (.aload_n 0, 1) := by decide +kernel
theorem dX11_step_72 : decode cX11_step 72 = .ok (.getfield 9, 3) := by decide +kernel
theorem dX11_step_75 : decode cX11_step 75 = .ok (.iload 6, 2) := by decide +kernel
theorem dX11_step_77 : decode cX11_step 77 = .ok (.iaload, 1) := by decide +kernel
theorem dX11_step_78 : decode cX11_step 78 = .ok (.ifCond .ne 14, 3) := by decide +kernel
theorem dX11_step_81 : decode cX11_step 81 = .ok (.iload 6, 2) := by decide +kernel
theorem dX11_step_83 : decode cX11_step 83 = .ok (.ifCond .ge 7, 3) := by decide +kernel
theorem dX11_step_86 : decode cX11_step 86 = .ok (.iconst 1, 1) := by decide +kernel
theorem dX11_step_87 : decode cX11_step 87 = .ok (.goto 4, 3) := by decide +kernel
theorem dX11_step_90 : decode cX11_step 90 = .ok (.iconst 2, 1) := by decide +kernel
theorem dX11_step_91 : decode cX11_step 91 = .ok (.ireturn, 1) := by decide +kernel
theorem dX11_step_92 : decode cX11_step 92 = .ok (.dload 4, 2) := by decide +kernel
theorem dX11_step_94 : decode cX11_step 94 = .ok (.aload_n 0, 1) := by decide +kernel
theorem dX11_step_95 : decode cX11_step 95 = .ok (.getfield 15, 3) := by decide +kernel
theorem dX11_step_98 : decode cX11_step 98 = .ok (.bipush 16, 2) := by decide +kernel
theorem dX11_step_100 : decode cX11_step 100 = .ok (.iload 6, 2) := by decide +kernel
theorem dX11_step_102 : decode cX11_step 102 = .ok (.imul, 1) := by decide +kernel
theorem dX11_step_103 : decode cX11_step 103 = .ok (.aload_n 0, 1) := by decide +kernel
theorem dX11_step_104 : decode cX11_step 104 = .ok (.getfield 56, 3) := by decide +kernel
theorem dX11_step_107 : decode cX11_step 107 = .ok (.iload_n 1, 1) := by decide +kernel
theorem dX11_step_108 : decode cX11_step 108 = .ok (.laload, 1) := by decide +kernel
theorem dX11_step_109 : decode cX11_step 109 = .ok (.aload_n 0, 1) := by decide +kernel
theorem dX11_step_110 : decode cX11_step 110 = .ok (.getfield 9, 3) := by decide +kernel
theorem dX11_step_113 : decode cX11_step 113 = .ok (.iload 6, 2) := by decide +kernel
theorem dX11_step_115 : decode cX11_step 115 = .ok (.iaload, 1) := by decide +kernel
theorem dX11_step_116 : decode cX11_step 116 = .ok (.i2l, 1) := by decide +kernel
theorem dX11_step_117 : decode cX11_step 117 = .ok (.lrem, 1) := by decide +kernel
theorem dX11_step_118 : decode cX11_step 118 = .ok (.l2i, 1) := by decide +kernel
theorem dX11_step_119 : decode cX11_step 119 = .ok (.iadd, 1) := by decide +kernel
theorem dX11_step_120 : decode cX11_step 120 = .ok (.daload, 1) := by decide +kernel
theorem dX11_step_121 : decode cX11_step 121 = .ok (.dmul, 1) := by decide +kernel
theorem dX11_step_122 : decode cX11_step 122 = .ok (.invokestatic 140, 3) := by decide +kernel
theorem dX11_step_125 : decode cX11_step 125 = .ok (.dstore 4, 2) := by decide +kernel
theorem dX11_step_127 : decode cX11_step 127 = .ok (.iconst 0, 1) := by decide +kernel
theorem dX11_step_128 : decode cX11_step 128 = .ok (.istore 6, 2) := by decide +kernel
theorem dX11_step_130 : decode cX11_step 130 = .ok (.iload 6, 2) := by decide +kernel
theorem dX11_step_132 : decode cX11_step 132 = .ok (.iconst 3, 1) := by decide +kernel
theorem dX11_step_133 : decode cX11_step 133 = .ok (.if_icmp .ge 71, 3) := by decide +kernel
theorem dX11_step_136 : decode cX11_step 136 = .ok (.aload_n 0, 1) := by decide +kernel
theorem dX11_step_137 : decode cX11_step 137 = .ok (.getfield 47, 3) := by decide +kernel
theorem dX11_step_140 : decode cX11_step 140 = .ok (.iload_n 1, 1) := by decide +kernel
theorem dX11_step_141 : decode cX11_step 141 = .ok (.iaload, 1) := by decide +kernel
theorem dX11_step_142 : decode cX11_step 142 = .ok (.ifCond .lt 62, 3) := by decide +kernel
theorem dX11_step_145 : decode cX11_step 145 = .ok (.aload_n 0, 1) := by decide +kernel
theorem dX11_step_146 : decode cX11_step 146 = .ok (.getfield 31, 3) := by decide +kernel
theorem dX11_step_149 : decode cX11_step 149 = .ok (.aload_n 0, 1) := by decide +kernel
theorem dX11_step_150 : decode cX11_step 150 = .ok (.getfield 47, 3) := by decide +kernel
theorem dX11_step_153 : decode cX11_step 153 = .ok (.iload_n 1, 1) := by decide +kernel
theorem dX11_step_154 : decode cX11_step 154 = .ok (.iaload, 1) := by decide +kernel
theorem dX11_step_155 : decode cX11_step 155 = .ok (.iaload, 1) := by decide +kernel
theorem dX11_step_156 : decode cX11_step 156 = .ok (.ifCond .ge 7, 3) := by decide +kernel
theorem dX11_step_159 : decode cX11_step 159 = .ok (.iconst (-1), 1) := by decide +kernel
theorem dX11_step_160 : decode cX11_step 160 = .ok (.goto 19, 3) := by decide +kernel
theorem dX11_step_163 : decode cX11_step 163 = .ok (.aload_n 0, 1) := by decide +kernel
theorem dX11_step_164 : decode cX11_step 164 = .ok (.getfield 34, 3) := by decide +kernel
theorem dX11_step_167 : decode cX11_step 167 = .ok (.iconst 3, 1) := by decide +kernel
theorem dX11_step_168 : decode cX11_step 168 = .ok (.aload_n 0, 1) := by decide +kernel
theorem dX11_step_169 : decode cX11_step 169 = .ok (.getfield 47, 3) := by decide +kernel
theorem dX11_step_172 : decode cX11_step 172 = .ok (.iload_n 1, 1) := by decide +kernel
theorem dX11_step_173 : decode cX11_step 173 = .ok (.iaload, 1) := by decide +kernel
theorem dX11_step_174 : decode cX11_step 174 = .ok (.imul, 1) := by decide +kernel
theorem dX11_step_175 : decode cX11_step 175 = .ok (.iload 6, 2) := by decide +kernel
theorem dX11_step_177 : decode cX11_step 177 = .ok (.iadd, 1) := by decide +kernel
theorem dX11_step_178 : decode cX11_step 178 = .ok (.iaload, 1) := by decide +kernel
theorem dX11_step_179 : decode cX11_step 179 = .ok (.istore 7, 2) := by decide +kernel
theorem dX11_step_181 : decode cX11_step 181 = .ok (.iload 7, 2) := by decide +kernel
theorem dX11_step_183 : decode cX11_step 183 = .ok (.ifCond .ge 5, 3) := by decide +kernel
theorem dX11_step_186 : decode cX11_step 186 = .ok (.iconst 1, 1) := by decide +kernel
theorem dX11_step_187 : decode cX11_step 187 = .ok (.ireturn, 1) := by decide +kernel
theorem dX11_step_188 : decode cX11_step 188 = .ok (.aload_n 0, 1) := by decide +kernel
theorem dX11_step_189 : decode cX11_step 189 = .ok (.iload 7, 2) := by decide +kernel
theorem dX11_step_191 : decode cX11_step 191 = .ok (.dload 4, 2) := by decide +kernel
theorem dX11_step_193 : decode cX11_step 193 = .ok (.invokevirtual 150, 3) := by decide +kernel
theorem dX11_step_196 : decode cX11_step 196 = .ok (.dstore 4, 2) := by decide +kernel
theorem dX11_step_198 : decode cX11_step 198 = .ok (.iinc 6 1, 3) := by decide +kernel
theorem dX11_step_201 : decode cX11_step 201 = .ok (.goto (-71), 3) := by decide +kernel
theorem dX11_step_204 : decode cX11_step 204 = .ok (.aload_n 0, 1) := by decide +kernel
theorem dX11_step_205 : decode cX11_step 205 = .ok (.getfield 56, 3) := by decide +kernel
theorem dX11_step_208 : decode cX11_step 208 = .ok (.iload_n 1, 1) := by decide +kernel
theorem dX11_step_209 : decode cX11_step 209 = .ok (.laload, 1) := by decide +kernel
theorem dX11_step_210 : decode cX11_step 210 = .ok (.ldc2_w 162, 3) := by decide +kernel
theorem dX11_step_213 : decode cX11_step 213 = .ok (.lrem, 1) := by decide +kernel
theorem dX11_step_214 : decode cX11_step 214 = .ok (.l2i, 1) := by decide +kernel
theorem dX11_step_215 : decode cX11_step 215 = .ok (.istore 6, 2) := by decide +kernel
theorem dX11_step_217 : decode cX11_step 217 = .ok (.aload_n 0, 1) := by decide +kernel
theorem dX11_step_218 : decode cX11_step 218 = .ok (.getfield 60, 3) := by decide +kernel
theorem dX11_step_221 : decode cX11_step 221 = .ok (.iload 6, 2) := by decide +kernel
theorem dX11_step_223 : decode cX11_step 223 = .ok (.aload_n 0, 1) := by decide +kernel
theorem dX11_step_224 : decode cX11_step 224 = .ok (.getfield 60, 3) := by decide +kernel
theorem dX11_step_227 : decode cX11_step 227 = .ok (.iload 6, 2) := by decide +kernel
theorem dX11_step_229 : decode cX11_step 229 = .ok (.daload, 1) := by decide +kernel
theorem dX11_step_230 : decode cX11_step 230 = .ok (.dload 4, 2) := by decide +kernel
theorem dX11_step_232 : decode cX11_step 232 = .ok (.dadd, 1) := by decide +kernel
theorem dX11_step_233 : decode cX11_step 233 = .ok (.invokestatic 140, 3) := by decide +kernel
theorem dX11_step_236 : decode cX11_step 236 = .ok (.dastore, 1) := by decide +kernel
theorem dX11_step_237 : decode cX11_step 237 = .ok (.aload_n 0, 1) := by decide +kernel
theorem dX11_step_238 : decode cX11_step 238 = .ok (.getfield 9, 3) := by decide +kernel
theorem dX11_step_241 : decode cX11_step 241 = .ok (.aload_n 0, 1) := by decide +kernel
theorem dX11_step_242 : decode cX11_step 242 = .ok (.getfield 19, 3) := by decide +kernel
theorem dX11_step_245 : decode cX11_step 245 = .ok (.aload_n 0, 1) := by decide +kernel
theorem dX11_step_246 : decode cX11_step 246 = .ok (.getfield 41, 3) := by decide +kernel
theorem dX11_step_249 : decode cX11_step 249 = .ok (.iload_n 1, 1) := by decide +kernel
theorem dX11_step_250 : decode cX11_step 250 = .ok (.iaload, 1) := by decide +kernel
theorem dX11_step_251 : decode cX11_step 251 = .ok (.iaload, 1) := by decide +kernel
theorem dX11_step_252 : decode cX11_step 252 = .ok (.iaload, 1) := by decide +kernel
theorem dX11_step_253 : decode cX11_step 253 = .ok (.i2d, 1) := by decide +kernel
theorem dX11_step_254 : decode cX11_step 254 = .ok (.dstore 7, 2) := by decide +kernel
theorem dX11_step_256 : decode cX11_step 256 = .ok (.aload_n 0, 1) := by decide +kernel
theorem dX11_step_257 : decode cX11_step 257 = .ok (.getfield 53, 3) := by decide +kernel
theorem dX11_step_260 : decode cX11_step 260 = .ok (.iload_n 1, 1) := by decide +kernel
theorem dX11_step_261 : decode cX11_step 261 = .ok (.daload, 1) := by decide +kernel
theorem dX11_step_262 : decode cX11_step 262 = .ok (.aload_n 0, 1) := by decide +kernel
theorem dX11_step_263 : decode cX11_step 263 = .ok (.getfield 50, 3) := by decide +kernel
theorem dX11_step_266 : decode cX11_step 266 = .ok (.iload_n 1, 1) := by decide +kernel
theorem dX11_step_267 : decode cX11_step 267 = .ok (.daload, 1) := by decide +kernel
theorem dX11_step_268 : decode cX11_step 268 = .ok (.dadd, 1) := by decide +kernel
theorem dX11_step_269 : decode cX11_step 269 = .ok (.dload 7, 2) := by decide +kernel
theorem dX11_step_271 : decode cX11_step 271 = .ok (.drem, 1) := by decide +kernel
theorem dX11_step_272 : decode cX11_step 272 = .ok (.dstore 9, 2) := by decide +kernel
theorem dX11_step_274 : decode cX11_step 274 = .ok (.dload 9, 2) := by decide +kernel
theorem dX11_step_276 : decode cX11_step 276 = .ok (.dconst 0, 1) := by decide +kernel
theorem dX11_step_277 : decode cX11_step 277 = .ok (.dcmp .g, 1) := by decide +kernel
theorem dX11_step_278 : decode cX11_step 278 = .ok (.ifCond .ge 11, 3) := by decide +kernel
theorem dX11_step_281 : decode cX11_step 281 = .ok (.dload 9, 2) := by decide +kernel
theorem dX11_step_283 : decode cX11_step 283 = .ok (.dload 7, 2) := by decide +kernel
theorem dX11_step_285 : decode cX11_step 285 = .ok (.dadd, 1) := by decide +kernel
theorem dX11_step_286 : decode cX11_step 286 = .ok (.goto 5, 3) := by decide +kernel
theorem dX11_step_289 : decode cX11_step 289 = .ok (.dload 9, 2) := by decide +kernel
theorem dX11_step_291 : decode cX11_step 291 = .ok (.dstore 9, 2) := by decide +kernel
theorem dX11_step_293 : decode cX11_step 293 = .ok (.aload_n 0, 1) := by decide +kernel
theorem dX11_step_294 : decode cX11_step 294 = .ok (.getfield 53, 3) := by decide +kernel
theorem dX11_step_297 : decode cX11_step 297 = .ok (.iload_n 1, 1) := by decide +kernel
theorem dX11_step_298 : decode cX11_step 298 = .ok (.dload 9, 2) := by decide +kernel
theorem dX11_step_300 : decode cX11_step 300 = .ok (.dload 7, 2) := by decide +kernel
theorem dX11_step_302 : decode cX11_step 302 = .ok (.dcmp .g, 1) := by decide +kernel
theorem dX11_step_303 : decode cX11_step 303 = .ok (.ifCond .ge 8, 3) := by decide +kernel
theorem dX11_step_306 : decode cX11_step 306 = .ok (.dload 9, 2) := by decide +kernel
theorem dX11_step_308 : decode cX11_step 308 = .ok (.goto 4, 3) := by decide +kernel
theorem dX11_step_311 : decode cX11_step 311 = .ok (.dconst 0, 1) := by decide +kernel
