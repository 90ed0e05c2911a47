theorem dX11_init_0 : decode cX11_init 0 = .ok (.aload_n 0, 1) := by decide +kernel
theorem dX11_init_1 : decode cX11_init 1 = .ok (.invokespecial 1, 3) := by decide +kernel
theorem dX11_init_4 : decode cX11_init 4 = .ok (.aload_n 0, 1) := by decide +kernel
theorem dX11_init_5 : decode cX11_init 5 = .ok (.iconst 1, 1) := by decide +kernel
theorem dX11_init_6 : decode cX11_init 6 = .ok (.putfield 7, 3) := by decide +kernel
theorem dX11_init_9 : decode cX11_init 9 = .ok (.aload_n 0, 1) := by decide +kernel
theorem dX11_init_10 : decode cX11_init 10 = .ok (.bipush 100, 2) := by decide +kernel
theorem dX11_init_12 : decode cX11_init 12 = .ok (.newarray .int, 2) := by decide +kernel
theorem dX11_init_14 : decode cX11_init 14 = .ok (.putfield 13, 3) := by decide +kernel
theorem dX11_init_17 : decode cX11_init 17 = .ok (.aload_n 0, 1) := by decide +kernel
theorem dX11_init_18 : decode cX11_init 18 = .ok (.bipush 64, 2) := by decide +kernel
theorem dX11_init_20 : decode cX11_init 20 = .ok (.newarray .int, 2) := by decide +kernel
theorem dX11_init_22 : decode cX11_init 22 = .ok (.putfield 17, 3) := by decide +kernel
theorem dX11_init_25 : decode cX11_init 25 = .ok (.aload_n 0, 1) := by decide +kernel
theorem dX11_init_26 : decode cX11_init 26 = .ok (.bipush 8, 2) := by decide +kernel
theorem dX11_init_28 : decode cX11_init 28 = .ok (.newarray .int, 2) := by decide +kernel
theorem dX11_init_30 : decode cX11_init 30 = .ok (.putfield 20, 3) := by decide +kernel
theorem dX11_init_33 : decode cX11_init 33 = .ok (.aload_n 0, 1) := by decide +kernel
theorem dX11_init_34 : decode cX11_init 34 = .ok (.bipush 8, 2) := by decide +kernel
theorem dX11_init_36 : decode cX11_init 36 = .ok (.newarray .int, 2) := by decide +kernel
theorem dX11_init_38 : decode cX11_init 38 = .ok (.putfield 23, 3) := by decide +kernel
theorem dX11_init_41 : decode cX11_init 41 = .ok (.aload_n 0, 1) := by decide +kernel
theorem dX11_init_42 : decode cX11_init 42 = .ok (.bipush 8, 2) := by decide +kernel
theorem dX11_init_44 : decode cX11_init 44 = .ok (.newarray .int, 2) := by decide +kernel
theorem dX11_init_46 : decode cX11_init 46 = .ok (.putfield 26, 3) := by decide +kernel
theorem dX11_init_49 : decode cX11_init 49 = .ok (.aload_n 0, 1) := by decide +kernel
theorem dX11_init_50 : decode cX11_init 50 = .ok (.bipush 8, 2) := by decide +kernel
theorem dX11_init_52 : decode cX11_init 52 = .ok (.newarray .int, 2) := by decide +kernel
theorem dX11_init_54 : decode cX11_init 54 = .ok (.putfield 29, 3) := by decide +kernel
theorem dX11_init_57 : decode cX11_init 57 = .ok (.aload_n 0, 1) := by decide +kernel
theorem dX11_init_58 : decode cX11_init 58 = .ok (.sipush 700, 3) := by decide +kernel
theorem dX11_init_61 : decode cX11_init 61 = .ok (.newarray .int, 2) := by decide +kernel
theorem dX11_init_63 : decode cX11_init 63 = .ok (.putfield 32, 3) := by decide +kernel
theorem dX11_init_66 : decode cX11_init 66 = .ok (.aload_n 0, 1) := by decide +kernel
theorem dX11_init_67 : decode cX11_init 67 = .ok (.bipush 8, 2) := by decide +kernel
theorem dX11_init_69 : decode cX11_init 69 = .ok (.newarray .int, 2) := by decide +kernel
theorem dX11_init_71 : decode cX11_init 71 = .ok (.putfield 35, 3) := by decide +kernel
theorem dX11_init_74 : decode cX11_init 74 = .ok (.aload_n 0, 1) := by decide +kernel
theorem dX11_init_75 : decode cX11_init 75 = .ok (.bipush 8, 2) := by decide +kernel
theorem dX11_init_77 : decode cX11_init 77 = .ok (.newarray .int, 2) := by decide +kernel
theorem dX11_init_79 : decode cX11_init 79 = .ok (.putfield 38, 3) := by decide +kernel
theorem dX11_init_82 : decode cX11_init 82 = .ok (.aload_n 0, 1) := by decide +kernel
theorem dX11_init_83 : decode cX11_init 83 = .ok (.bipush 6, 2) := by decide +kernel
theorem dX11_init_85 : decode cX11_init 85 = .ok (.newarray .int, 2) := by decide +kernel
theorem dX11_init_87 : decode cX11_init 87 = .ok (.putfield 41, 3) := by decide +kernel
theorem dX11_init_90 : decode cX11_init 90 = .ok (.aload_n 0, 1) := by decide +kernel
theorem dX11_init_91 : decode cX11_init 91 = .ok (.bipush 6, 2) := by decide +kernel
theorem dX11_init_93 : decode cX11_init 93 = .ok (.newarray .int, 2) := by decide +kernel
theorem dX11_init_95 : decode cX11_init 95 = .ok (.putfield 44, 3) := by decide +kernel
theorem dX11_init_98 : decode cX11_init 98 = .ok (.aload_n 0, 1) := by decide +kernel
theorem dX11_init_99 : decode cX11_init 99 = .ok (.bipush 6, 2) := by decide +kernel
theorem dX11_init_101 : decode cX11_init 101 = .ok (.newarray .int, 2) := by decide +kernel
theorem dX11_init_103 : decode cX11_init 103 = .ok (.putfield 47, 3) := by decide +kernel
theorem dX11_init_106 : decode cX11_init 106 = .ok (.aload_n 0, 1) := by decide +kernel
theorem dX11_init_107 : decode cX11_init 107 = .ok (.iconst 2, 1) := by decide +kernel
theorem dX11_init_108 : decode cX11_init 108 = .ok (.newarray .boolean, 2) := by decide +kernel
theorem dX11_init_110 : decode cX11_init 110 = .ok (.putfield 50, 3) := by decide +kernel
theorem dX11_init_113 : decode cX11_init 113 = .ok (.aload_n 0, 1) := by decide +kernel
theorem dX11_init_114 : decode cX11_init 114 = .ok (.bipush 100, 2) := by decide +kernel
theorem dX11_init_116 : decode cX11_init 116 = .ok (.newarray .int, 2) := by decide +kernel
theorem dX11_init_118 : decode cX11_init 118 = .ok (.putfield 54, 3) := by decide +kernel
theorem dX11_init_121 : decode cX11_init 121 = .ok (.aload_n 0, 1) := by decide +kernel
theorem dX11_init_122 : decode cX11_init 122 = .ok (.getfield 13, 3) := by decide +kernel
theorem dX11_init_125 : decode cX11_init 125 = .ok (.iconst 1, 1) := by decide +kernel
theorem dX11_init_126 : decode cX11_init 126 = .ok (.iconst 1, 1) := by decide +kernel
theorem dX11_init_127 : decode cX11_init 127 = .ok (.iastore, 1) := by decide +kernel
theorem dX11_init_128 : decode cX11_init 128 = .ok (.return_, 1) := by decide +kernel
theorem dX11_in_0 : decode cX11_in 0 = .ok (.lload_n 0, 1) := by decide +kernel
theorem dX11_in_1 : decode cX11_in 1 = .ok (.lload_n 2, 1) := by decide +kernel
theorem dX11_in_2 : decode cX11_in 2 = .ok (.lcmp, 1) := by decide +kernel
theorem dX11_in_3 : decode cX11_in 3 = .ok (.ifCond .lt 14, 3) := by decide +kernel
theorem dX11_in_6 : decode cX11_in 6 = .ok (.lload_n 0, 1) := by decide +kernel
theorem dX11_in_7 : decode cX11_in 7 = .ok (.lload 4, 2) := by decide +kernel
theorem dX11_in_9 : decode cX11_in 9 = .ok (.lcmp, 1) := by decide +kernel
theorem dX11_in_10 : decode cX11_in 10 = .ok (.ifCond .gt 7, 3) := by decide +kernel
theorem dX11_in_13 : decode cX11_in 13 = .ok (.iconst 1, 1) := by decide +kernel
theorem dX11_in_14 : decode cX11_in 14 = .ok (.goto 4, 3) := by decide +kernel
theorem dX11_in_17 : decode cX11_in 17 = .ok (.iconst 0, 1) := by decide +kernel
theorem dX11_in_18 : decode cX11_in 18 = .ok (.ireturn, 1) := by decide +kernel
theorem dX11_has_0 : decode cX11_has 0 = .ok (.iload_n 0, 1) := by decide +kernel
theorem dX11_has_1 : decode cX11_has 1 = .ok (.iload_n 1, 1) := by decide +kernel
theorem dX11_has_2 : decode cX11_has 2 = .ok (.ishr, 1) := by decide +kernel
theorem dX11_has_3 : decode cX11_has 3 = .ok (.iconst 1, 1) := by decide +kernel
theorem dX11_has_4 : decode cX11_has 4 = .ok (.iand, 1) := by decide +kernel
theorem dX11_has_5 : decode cX11_has 5 = .ok (.iconst 1, 1) := by decide +kernel
theorem dX11_has_6 : decode cX11_has 6 = .ok (.if_icmp .ne 7, 3) := by decide +kernel
theorem dX11_has_9 : decode cX11_has 9 = .ok (.iconst 1, 1) := by decide +kernel
theorem dX11_has_10 : decode cX11_has 10 = .ok (.goto 4, 3) := by decide +kernel
theorem dX11_has_13 : decode cX11_has 13 = .ok (.iconst 0, 1) := by decide +kernel
theorem dX11_has_14 : decode cX11_has 14 = .ok (.ireturn, 1) := by decide +kernel
theorem dX11_ones_0 : decode cX11_ones 0 = .ok (.iconst 0, 1) := by decide +kernel
theorem dX11_ones_1 : decode cX11_ones 1 = .ok (.istore_n 1, 1) := by decide +kernel
theorem dX11_ones_2 : decode cX11_ones 2 = .ok (.iconst 0, 1) := by decide +kernel
theorem dX11_ones_3 : decode cX11_ones 3 = .ok (.istore_n 2, 1) := by decide +kernel
theorem dX11_ones_4 : decode cX11_ones 4 = .ok (.iload_n 2, 1) := by decide +kernel
theorem dX11_ones_5 : decode cX11_ones 5 = .ok (.bipush 8, 2) := by decide +kernel
theorem dX11_ones_7 : decode cX11_ones 7 = .ok (.if_icmp .ge 17, 3) := by decide +kernel
theorem dX11_ones_10 : decode cX11_ones 10 = .ok (.iload_n 1, 1) := by decide +kernel
theorem dX11_ones_11 : decode cX11_ones 11 = .ok (.iload_n 0, 1) := by decide +kernel
theorem dX11_ones_12 : decode cX11_ones 12 = .ok (.iload_n 2, 1) := by decide +kernel
theorem dX11_ones_13 : decode cX11_ones 13 = .ok (.ishr, 1) := by decide +kernel
theorem dX11_ones_14 : decode cX11_ones 14 = .ok (.iconst 1, 1) := by decide +kernel
theorem dX11_ones_15 : decode cX11_ones 15 = .ok (.iand, 1) := by decide +kernel
theorem dX11_ones_16 : decode cX11_ones 16 = .ok (.iadd, 1) := by decide +kernel
theorem dX11_ones_17 : decode cX11_ones 17 = .ok (.istore_n 1, 1) := by decide +kernel
theorem dX11_ones_18 : decode cX11_ones 18 = .ok (.iinc 2 1, 3) := by decide +kernel
theorem dX11_ones_21 : decode cX11_ones 21 = .ok (.goto (-17), 3) := by decide +kernel
theorem dX11_ones_24 : decode cX11_ones 24 = .ok (.iload_n 1, 1) := by decide +kernel
theorem dX11_ones_25 : decode cX11_ones 25 = .ok (.ireturn, 1) := by decide +kernel
set_option maxRecDepth 20000 in
theorem ggX11_write_X11_in : GoodIn wsX11_write wsX11_in := goodIn_r _ [7] (by decide +kernel) (by decide +kernel)
set_option maxRecDepth 20000 in
theorem gX11_write_X11_in : GoodIn wsX11_write (va_wsS RX11 59 yX11_in wsX11_in) := goodIn_app (goodIn_of _ (by decide +kernel)) ggX11_write_X11_in
theorem dX11_write_0 : decode cX11_write 0 = .ok (.iload_n 1, 1) := by decide +kernel
theorem dX11_write_1 : decode cX11_write 1 = .ok (.i2l, 1) := by decide +kernel
theorem dX11_write_2 : decode cX11_write 2 = .ok (.lconst 0, 1) := by decide +kernel
theorem dX11_write_3 : decode cX11_write 3 = .ok (.ldc2_w 57, 3) := by decide +kernel
theorem dX11_write_6 : decode cX11_write 6 = .ok (.invokestatic 59, 3) := by decide +kernel
theorem dX11_write_9 : decode cX11_write 9 = .ok (.ifCond .ne 6, 3) := by decide +kernel
theorem dX11_write_12 : decode cX11_write 12 = .ok (.bipush (-2), 2) := by decide +kernel
theorem dX11_write_14 : decode cX11_write 14 = .ok (.ireturn, 1) := by decide +kernel
theorem dX11_write_15 : decode cX11_write 15 = .ok (.aload_n 0, 1) := by decide +kernel
theorem dX11_write_16 : decode cX11_write 16 = .ok (.getfield 63, 3) := by decide +kernel
theorem dX11_write_19 : decode cX11_write 19 = .ok (.bipush 64, 2) := by decide +kernel
theorem dX11_write_21 : decode cX11_write 21 = .ok (.if_icmp .ne 6, 3) := by decide +kernel
theorem dX11_write_24 : decode cX11_write 24 = .ok (.bipush (-4), 2) := by decide +kernel
theorem dX11_write_26 : decode cX11_write 26 = .ok (.ireturn, 1) := by decide +kernel
theorem dX11_write_27 : decode cX11_write 27 = .ok (.aload_n 0, 1) := by decide +kernel
theorem dX11_write_28 : decode cX11_write 28 = .ok (.getfield 17, 3) := by decide +kernel
theorem dX11_write_31 : decode cX11_write 31 = .ok (.aload_n 0, 1) := by decide +kernel
theorem dX11_write_32 : decode cX11_write 32 = .ok (.getfield 63, 3) := by decide +kernel
theorem dX11_write_35 : decode cX11_write 35 = .ok (.iload_n 1, 1) := by decide +kernel
theorem dX11_write_36 : decode cX11_write 36 = .ok (.iastore, 1) := by decide +kernel
theorem dX11_write_37 : decode cX11_write 37 = .ok (.aload_n 0, 1) := by decide +kernel
theorem dX11_write_38 : decode cX11_write 38 = .ok (.dup, 1) := by decide +kernel
theorem dX11_write_39 : decode cX11_write 39 = .ok (.getfield 63, 3) := by decide +kernel
theorem dX11_write_42 : decode cX11_write 42 = .ok (.iconst 1, 1) := by decide +kernel
theorem dX11_write_43 : decode cX11_write 43 = .ok (.iadd, 1) := by decide +kernel
theorem dX11_write_44 : decode cX11_write 44 = .ok (.putfield 63, 3) := by decide +kernel
theorem dX11_write_47 : decode cX11_write 47 = .ok (.aload_n 0, 1) := by decide +kernel
theorem dX11_write_48 : decode cX11_write 48 = .ok (.getfield 63, 3) := by decide +kernel
theorem dX11_write_51 : decode cX11_write 51 = .ok (.ireturn, 1) := by decide +kernel
theorem dX11_wipe_0 : decode cX11_wipe 0 = .ok (.aload_n 0, 1) := by decide +kernel
theorem dX11_wipe_1 : decode cX11_wipe 1 = .ok (.getfield 63, 3) := by decide +kernel
theorem dX11_wipe_4 : decode cX11_wipe 4 = .ok (.istore_n 1, 1) := by decide +kernel
theorem dX11_wipe_5 : decode cX11_wipe 5 = .ok (.aload_n 0, 1) := by decide +kernel
theorem dX11_wipe_6 : decode cX11_wipe 6 = .ok (.iconst 0, 1) := by decide +kernel
theorem dX11_wipe_7 : decode cX11_wipe 7 = .ok (.putfield 63, 3) := by decide +kernel
theorem dX11_wipe_10 : decode cX11_wipe 10 = .ok (.iload_n 1, 1) := by decide +kernel
theorem dX11_wipe_11 : decode cX11_wipe 11 = .ok (.ireturn, 1) := by decide +kernel
theorem dX11_many_0 : decode cX11_many 0 = .ok (.aload_n 0, 1) := by decide +kernel
theorem dX11_many_1 : decode cX11_many 1 = .ok (.getfield 13, 3) := by decide +kernel
theorem dX11_many_4 : decode cX11_many 4 = .ok (.bipush 50, 2) := by decide +kernel
theorem dX11_many_6 : decode cX11_many 6 = .ok (.iload_n 1, 1) := by decide +kernel
theorem dX11_many_7 : decode cX11_many 7 = .ok (.imul, 1) := by decide +kernel
theorem dX11_many_8 : decode cX11_many 8 = .ok (.iconst 0, 1) := by decide +kernel
theorem dX11_many_9 : decode cX11_many 9 = .ok (.iadd, 1) := by decide +kernel
theorem dX11_many_10 : decode cX11_many 10 = .ok (.iaload, 1) := by decide +kernel
theorem dX11_many_11 : decode cX11_many 11 = .ok (.ireturn, 1) := by decide +kernel
theorem dX11_fromOf_0 : decode cX11_fromOf 0 = .ok (.aload_n 0, 1) := by decide +kernel
theorem dX11_fromOf_1 : decode cX11_fromOf 1 = .ok (.getfield 13, 3) := by decide +kernel
theorem dX11_fromOf_4 : decode cX11_fromOf 4 = .ok (.bipush 50, 2) := by decide +kernel
theorem dX11_fromOf_6 : decode cX11_fromOf 6 = .ok (.iload_n 1, 1) := by decide +kernel
theorem dX11_fromOf_7 : decode cX11_fromOf 7 = .ok (.imul, 1) := by decide +kernel
theorem dX11_fromOf_8 : decode cX11_fromOf 8 = .ok (.iconst 2, 1) := by decide +kernel
theorem dX11_fromOf_9 : decode cX11_fromOf 9 = .ok (.iadd, 1) := by decide +kernel
theorem dX11_fromOf_10 : decode cX11_fromOf 10 = .ok (.iload_n 2, 1) := by decide +kernel
theorem dX11_fromOf_11 : decode cX11_fromOf 11 = .ok (.iadd, 1) := by decide +kernel
theorem dX11_fromOf_12 : decode cX11_fromOf 12 = .ok (.iaload, 1) := by decide +kernel
theorem dX11_fromOf_13 : decode cX11_fromOf 13 = .ok (.bipush 10, 2) := by decide +kernel
theorem dX11_fromOf_15 : decode cX11_fromOf 15 = .ok (.idiv, 1) := by decide +kernel
theorem dX11_fromOf_16 : decode cX11_fromOf 16 = .ok (.ireturn, 1) := by decide +kernel
theorem dX11_toOf_0 : decode cX11_toOf 0 = .ok (.aload_n 0, 1) := by decide +kernel
theorem dX11_toOf_1 : decode cX11_toOf 1 = .ok (.getfield 13, 3) := by decide +kernel
theorem dX11_toOf_4 : decode cX11_toOf 4 = .ok (.bipush 50, 2) := by decide +kernel
theorem dX11_toOf_6 : decode cX11_toOf 6 = .ok (.iload_n 1, 1) := by decide +kernel
theorem dX11_toOf_7 : decode cX11_toOf 7 = .ok (.imul, 1) := by decide +kernel
theorem dX11_toOf_8 : decode cX11_toOf 8 = .ok (.iconst 2, 1) := by decide +kernel
theorem dX11_toOf_9 : decode cX11_toOf 9 = .ok (.iadd, 1) := by decide +kernel
theorem dX11_toOf_10 : decode cX11_toOf 10 = .ok (.iload_n 2, 1) := by decide +kernel
theorem dX11_toOf_11 : decode cX11_toOf 11 = .ok (.iadd, 1) := by decide +kernel
theorem dX11_toOf_12 : decode cX11_toOf 12 = .ok (.iaload, 1) := by decide +kernel
theorem dX11_toOf_13 : decode cX11_toOf 13 = .ok (.bipush 10, 2) := by decide +kernel
theorem dX11_toOf_15 : decode cX11_toOf 15 = .ok (.irem, 1) := by decide +kernel
theorem dX11_toOf_16 : decode cX11_toOf 16 = .ok (.ireturn, 1) := by decide +kernel
set_option maxRecDepth 20000 in
theorem ggX11_find_X11_many : GoodIn wsX11_find wsX11_many := goodIn_r _ [6, 1, 7, 8, 9, 10, 11, 12, 13, 14, 15, 16, 17, 18, 19, 20, 21, 22, 23, 24, 25, 26, 27, 28] (by decide +kernel) (by decide +kernel)
set_option maxRecDepth 20000 in
theorem gX11_find_X11_many : GoodIn wsX11_find (wsV RX11 66 RX11 yX11_many wsX11_many) := goodIn_app (goodIn_of _ (by decide +kernel)) ggX11_find_X11_many
theorem dX11_find_0 : decode cX11_find 0 = .ok (.bipush (-9), 2) := by decide +kernel
theorem dX11_find_2 : decode cX11_find 2 = .ok (.istore 4, 2) := by decide +kernel
theorem dX11_find_4 : decode cX11_find 4 = .ok (.iconst 0, 1) := by decide +kernel
theorem dX11_find_5 : decode cX11_find 5 = .ok (.istore 5, 2) := by decide +kernel
theorem dX11_find_7 : decode cX11_find 7 = .ok (.iload 5, 2) := by decide +kernel
theorem dX11_find_9 : decode cX11_find 9 = .ok (.aload_n 0, 1) := by decide +kernel
theorem dX11_find_10 : decode cX11_find 10 = .ok (.iload_n 1, 1) := by decide +kernel
theorem dX11_find_11 : decode cX11_find 11 = .ok (.invokevirtual 66, 3) := by decide +kernel
theorem dX11_find_14 : decode cX11_find 14 = .ok (.if_icmp .ge 41, 3) := by decide +kernel
theorem dX11_find_17 : decode cX11_find 17 = .ok (.aload_n 0, 1) := by decide +kernel
theorem dX11_find_18 : decode cX11_find 18 = .ok (.getfield 13, 3) := by decide +kernel
theorem dX11_find_21 : decode cX11_find 21 = .ok (.bipush 50, 2) := by decide +kernel
theorem dX11_find_23 : decode cX11_find 23 = .ok (.iload_n 1, 1) := by decide +kernel
theorem dX11_find_24 : decode cX11_find 24 = .ok (.imul, 1) := by decide +kernel
theorem dX11_find_25 : decode cX11_find 25 = .ok (.iconst 2, 1) := by decide +kernel
theorem dX11_find_26 : decode cX11_find 26 = .ok (.iadd, 1) := by decide +kernel
theorem dX11_find_27 : decode cX11_find 27 = .ok (.iload 5, 2) := by decide +kernel
theorem dX11_find_29 : decode cX11_find 29 = .ok (.iadd, 1) := by decide +kernel
theorem dX11_find_30 : decode cX11_find 30 = .ok (.iaload, 1) := by decide +kernel
theorem dX11_find_31 : decode cX11_find 31 = .ok (.bipush 10, 2) := by decide +kernel
theorem dX11_find_33 : decode cX11_find 33 = .ok (.iload_n 2, 1) := by decide +kernel
theorem dX11_find_34 : decode cX11_find 34 = .ok (.imul, 1) := by decide +kernel
theorem dX11_find_35 : decode cX11_find 35 = .ok (.iload_n 3, 1) := by decide +kernel
theorem dX11_find_36 : decode cX11_find 36 = .ok (.iadd, 1) := by decide +kernel
theorem dX11_find_37 : decode cX11_find 37 = .ok (.if_icmp .ne 8, 3) := by decide +kernel
theorem dX11_find_40 : decode cX11_find 40 = .ok (.iload 5, 2) := by decide +kernel
theorem dX11_find_42 : decode cX11_find 42 = .ok (.goto 5, 3) := by decide +kernel
theorem dX11_find_45 : decode cX11_find 45 = .ok (.iload 4, 2) := by decide +kernel
theorem dX11_find_47 : decode cX11_find 47 = .ok (.istore 4, 2) := by decide +kernel
theorem dX11_find_49 : decode cX11_find 49 = .ok (.iinc 5 1, 3) := by decide +kernel
theorem dX11_find_52 : decode cX11_find 52 = .ok (.goto (-45), 3) := by decide +kernel
theorem dX11_find_55 : decode cX11_find 55 = .ok (.iload 4, 2) := by decide +kernel
theorem dX11_find_57 : decode cX11_find 57 = .ok (.ireturn, 1) := by decide +kernel
set_option maxRecDepth 20000 in
theorem ggX11_outOf_X11_many : GoodIn wsX11_outOf wsX11_many := goodIn_r _ [5, 6, 11, 12, 13, 14, 15, 16, 17, 18, 19, 20, 21, 22, 23, 24, 25, 26, 27, 28, 29, 30, 31, 32] (by decide +kernel) (by decide +kernel)
set_option maxRecDepth 20000 in
theorem gX11_outOf_X11_many : GoodIn wsX11_outOf (wsV RX11 66 RX11 yX11_many wsX11_many) := goodIn_app (goodIn_of _ (by decide +kernel)) ggX11_outOf_X11_many
set_option maxRecDepth 20000 in
theorem ggX11_outOf_X11_fromOf : GoodIn wsX11_outOf wsX11_fromOf := goodIn_r _ [10, 6, 11, 12, 13, 14, 15, 16, 17, 18, 19, 20, 21, 22, 23, 24, 25, 26, 27, 28, 29, 30, 31, 32] (by decide +kernel) (by decide +kernel)
set_option maxRecDepth 20000 in
theorem gX11_outOf_X11_fromOf : GoodIn wsX11_outOf (wsV RX11 70 RX11 yX11_fromOf wsX11_fromOf) := goodIn_app (goodIn_of _ (by decide +kernel)) ggX11_outOf_X11_fromOf
theorem dX11_outOf_0 : decode cX11_outOf 0 = .ok (.iconst 0, 1) := by decide +kernel
theorem dX11_outOf_1 : decode cX11_outOf 1 = .ok (.istore_n 3, 1) := by decide +kernel
theorem dX11_outOf_2 : decode cX11_outOf 2 = .ok (.iconst 0, 1) := by decide +kernel
theorem dX11_outOf_3 : decode cX11_outOf 3 = .ok (.istore 4, 2) := by decide +kernel
theorem dX11_outOf_5 : decode cX11_outOf 5 = .ok (.iload 4, 2) := by decide +kernel
theorem dX11_outOf_7 : decode cX11_outOf 7 = .ok (.aload_n 0, 1) := by decide +kernel
theorem dX11_outOf_8 : decode cX11_outOf 8 = .ok (.iload_n 1, 1) := by decide +kernel
theorem dX11_outOf_9 : decode cX11_outOf 9 = .ok (.invokevirtual 66, 3) := by decide +kernel
theorem dX11_outOf_12 : decode cX11_outOf 12 = .ok (.if_icmp .ge 28, 3) := by decide +kernel
theorem dX11_outOf_15 : decode cX11_outOf 15 = .ok (.iload_n 3, 1) := by decide +kernel
theorem dX11_outOf_16 : decode cX11_outOf 16 = .ok (.aload_n 0, 1) := by decide +kernel
theorem dX11_outOf_17 : decode cX11_outOf 17 = .ok (.iload_n 1, 1) := by decide +kernel
theorem dX11_outOf_18 : decode cX11_outOf 18 = .ok (.iload 4, 2) := by decide +kernel
theorem dX11_outOf_20 : decode cX11_outOf 20 = .ok (.invokevirtual 70, 3) := by decide +kernel
theorem dX11_outOf_23 : decode cX11_outOf 23 = .ok (.iload_n 2, 1) := by decide +kernel
theorem dX11_outOf_24 : decode cX11_outOf 24 = .ok (.if_icmp .ne 7, 3) := by decide +kernel
theorem dX11_outOf_27 : decode cX11_outOf 27 = .ok (.iconst 1, 1) := by decide +kernel
theorem dX11_outOf_28 : decode cX11_outOf 28 = .ok (.goto 4, 3) := by decide +kernel
theorem dX11_outOf_31 : decode cX11_outOf 31 = .ok (.iconst 0, 1) := by decide +kernel
theorem dX11_outOf_32 : decode cX11_outOf 32 = .ok (.iadd, 1) := by decide +kernel
theorem dX11_outOf_33 : decode cX11_outOf 33 = .ok (.istore_n 3, 1) := by decide +kernel
theorem dX11_outOf_34 : decode cX11_outOf 34 = .ok (.iinc 4 1, 3) := by decide +kernel
theorem dX11_outOf_37 : decode cX11_outOf 37 = .ok (.goto (-32), 3) := by decide +kernel
theorem dX11_outOf_40 : decode cX11_outOf 40 = .ok (.iload_n 3, 1) := by decide +kernel
theorem dX11_outOf_41 : decode cX11_outOf 41 = .ok (.ireturn, 1) := by decide +kernel
theorem dX11_insertOn_0 : decode cX11_insertOn 0 = .ok (.bipush 50, 2) := by decide +kernel
theorem dX11_insertOn_2 : decode cX11_insertOn 2 = .ok (.iload_n 1, 1) := by decide +kernel
theorem dX11_insertOn_3 : decode cX11_insertOn 3 = .ok (.imul, 1) := by decide +kernel
theorem dX11_insertOn_4 : decode cX11_insertOn 4 = .ok (.istore 4, 2) := by decide +kernel
theorem dX11_insertOn_6 : decode cX11_insertOn 6 = .ok (.aload_n 0, 1) := by decide +kernel
theorem dX11_insertOn_7 : decode cX11_insertOn 7 = .ok (.getfield 13, 3) := by decide +kernel
theorem dX11_insertOn_10 : decode cX11_insertOn 10 = .ok (.iload 4, 2) := by decide +kernel
theorem dX11_insertOn_12 : decode cX11_insertOn 12 = .ok (.iconst 2, 1) := by decide +kernel
theorem dX11_insertOn_13 : decode cX11_insertOn 13 = .ok (.iadd, 1) := by decide +kernel
theorem dX11_insertOn_14 : decode cX11_insertOn 14 = .ok (.aload_n 0, 1) := by decide +kernel
theorem dX11_insertOn_15 : decode cX11_insertOn 15 = .ok (.getfield 13, 3) := by decide +kernel
theorem dX11_insertOn_18 : decode cX11_insertOn 18 = .ok (.iload 4, 2) := by decide +kernel
theorem dX11_insertOn_20 : decode cX11_insertOn 20 = .ok (.iconst 0, 1) := by decide +kernel
theorem dX11_insertOn_21 : decode cX11_insertOn 21 = .ok (.iadd, 1) := by decide +kernel
theorem dX11_insertOn_22 : decode cX11_insertOn 22 = .ok (.iaload, 1) := by decide +kernel
theorem dX11_insertOn_23 : decode cX11_insertOn 23 = .ok (.iadd, 1) := by decide +kernel
theorem dX11_insertOn_24 : decode cX11_insertOn 24 = .ok (.bipush 10, 2) := by decide +kernel
theorem dX11_insertOn_26 : decode cX11_insertOn 26 = .ok (.iload_n 2, 1) := by decide +kernel
theorem dX11_insertOn_27 : decode cX11_insertOn 27 = .ok (.imul, 1) := by decide +kernel
theorem dX11_insertOn_28 : decode cX11_insertOn 28 = .ok (.iload_n 3, 1) := by decide +kernel
theorem dX11_insertOn_29 : decode cX11_insertOn 29 = .ok (.iadd, 1) := by decide +kernel
theorem dX11_insertOn_30 : decode cX11_insertOn 30 = .ok (.iastore, 1) := by decide +kernel
theorem dX11_insertOn_31 : decode cX11_insertOn 31 = .ok (.aload_n 0, 1) := by decide +kernel
theorem dX11_insertOn_32 : decode cX11_insertOn 32 = .ok (.getfield 13, 3) := by decide +kernel
theorem dX11_insertOn_35 : decode cX11_insertOn 35 = .ok (.iload 4, 2) := by decide +kernel
theorem dX11_insertOn_37 : decode cX11_insertOn 37 = .ok (.bipush 26, 2) := by decide +kernel
theorem dX11_insertOn_39 : decode cX11_insertOn 39 = .ok (.iadd, 1) := by decide +kernel
theorem dX11_insertOn_40 : decode cX11_insertOn 40 = .ok (.aload_n 0, 1) := by decide +kernel
theorem dX11_insertOn_41 : decode cX11_insertOn 41 = .ok (.getfield 13, 3) := by decide +kernel
theorem dX11_insertOn_44 : decode cX11_insertOn 44 = .ok (.iload 4, 2) := by decide +kernel
theorem dX11_insertOn_46 : decode cX11_insertOn 46 = .ok (.iconst 0, 1) := by decide +kernel
theorem dX11_insertOn_47 : decode cX11_insertOn 47 = .ok (.iadd, 1) := by decide +kernel
theorem dX11_insertOn_48 : decode cX11_insertOn 48 = .ok (.iaload, 1) := by decide +kernel
theorem dX11_insertOn_49 : decode cX11_insertOn 49 = .ok (.iadd, 1) := by decide +kernel
theorem dX11_insertOn_50 : decode cX11_insertOn 50 = .ok (.aload_n 0, 1) := by decide +kernel
theorem dX11_insertOn_51 : decode cX11_insertOn 51 = .ok (.getfield 13, 3) := by decide +kernel
theorem dX11_insertOn_54 : decode cX11_insertOn 54 = .ok (.iload 4, 2) := by decide +kernel
theorem dX11_insertOn_56 : decode cX11_insertOn 56 = .ok (.iconst 1, 1) := by decide +kernel
theorem dX11_insertOn_57 : decode cX11_insertOn 57 = .ok (.iadd, 1) := by decide +kernel
theorem dX11_insertOn_58 : decode cX11_insertOn 58 = .ok (.iaload, 1) := by decide +kernel
theorem dX11_insertOn_59 : decode cX11_insertOn 59 = .ok (.iastore, 1) := by decide +kernel
theorem dX11_insertOn_60 : decode cX11_insertOn 60 = .ok (.aload_n 0, 1) := by decide +kernel
theorem dX11_insertOn_61 : decode cX11_insertOn 61 = .ok (.getfield 13, 3) := by decide +kernel
theorem dX11_insertOn_64 : decode cX11_insertOn 64 = .ok (.iload 4, 2) := by decide +kernel
theorem dX11_insertOn_66 : decode cX11_insertOn 66 = .ok (.iconst 0, 1) := by decide +kernel
theorem dX11_insertOn_67 : decode cX11_insertOn 67 = .ok (.iadd, 1) := by decide +kernel
theorem dX11_insertOn_68 : decode cX11_insertOn 68 = .ok (.dup2, 1) := by decide +kernel
theorem dX11_insertOn_69 : decode cX11_insertOn 69 = .ok (.iaload, 1) := by decide +kernel
theorem dX11_insertOn_70 : decode cX11_insertOn 70 = .ok (.iconst 1, 1) := by decide +kernel
theorem dX11_insertOn_71 : decode cX11_insertOn 71 = .ok (.iadd, 1) := by decide +kernel
theorem dX11_insertOn_72 : decode cX11_insertOn 72 = .ok (.iastore, 1) := by decide +kernel
theorem dX11_insertOn_73 : decode cX11_insertOn 73 = .ok (.aload_n 0, 1) := by decide +kernel
theorem dX11_insertOn_74 : decode cX11_insertOn 74 = .ok (.getfield 13, 3) := by decide +kernel
theorem dX11_insertOn_77 : decode cX11_insertOn 77 = .ok (.iload 4, 2) := by decide +kernel
theorem dX11_insertOn_79 : decode cX11_insertOn 79 = .ok (.iconst 1, 1) := by decide +kernel
theorem dX11_insertOn_80 : decode cX11_insertOn 80 = .ok (.iadd, 1) := by decide +kernel
theorem dX11_insertOn_81 : decode cX11_insertOn 81 = .ok (.dup2, 1) := by decide +kernel
theorem dX11_insertOn_82 : decode cX11_insertOn 82 = .ok (.iaload, 1) := by decide +kernel
theorem dX11_insertOn_83 : decode cX11_insertOn 83 = .ok (.iconst 1, 1) := by decide +kernel
theorem dX11_insertOn_84 : decode cX11_insertOn 84 = .ok (.iadd, 1) := by decide +kernel
theorem dX11_insertOn_85 : decode cX11_insertOn 85 = .ok (.iastore, 1) := by decide +kernel
theorem dX11_insertOn_86 : decode cX11_insertOn 86 = .ok (.return_, 1) := by decide +kernel
theorem dX11_deleteOn_0 : decode cX11_deleteOn 0 = .ok (.bipush 50, 2) := by decide +kernel
theorem dX11_deleteOn_2 : decode cX11_deleteOn 2 = .ok (.iload_n 1, 1) := by decide +kernel
theorem dX11_deleteOn_3 : decode cX11_deleteOn 3 = .ok (.imul, 1) := by decide +kernel
theorem dX11_deleteOn_4 : decode cX11_deleteOn 4 = .ok (.istore_n 3, 1) := by decide +kernel
theorem dX11_deleteOn_5 : decode cX11_deleteOn 5 = .ok (.aload_n 0, 1) := by decide +kernel
theorem dX11_deleteOn_6 : decode cX11_deleteOn 6 = .ok (.getfield 13, 3) := by decide +kernel
theorem dX11_deleteOn_9 : decode cX11_deleteOn 9 = .ok (.iload_n 3, 1) := by decide +kernel
theorem dX11_deleteOn_10 : decode cX11_deleteOn 10 = .ok (.iconst 0, 1) := by decide +kernel
theorem dX11_deleteOn_11 : decode cX11_deleteOn 11 = .ok (.iadd, 1) := by decide +kernel
theorem dX11_deleteOn_12 : decode cX11_deleteOn 12 = .ok (.dup2, 1) := by decide +kernel
theorem dX11_deleteOn_13 : decode cX11_deleteOn 13 = .ok (.iaload, 1) := by decide +kernel
theorem dX11_deleteOn_14 : decode cX11_deleteOn 14 = .ok (.iconst 1, 1) := by decide +kernel
theorem dX11_deleteOn_15 : decode cX11_deleteOn 15 = .ok (.isub, 1) := by decide +kernel
theorem dX11_deleteOn_16 : decode cX11_deleteOn 16 = .ok (.iastore, 1) := by decide +kernel
theorem dX11_deleteOn_17 : decode cX11_deleteOn 17 = .ok (.iload_n 2, 1) := by decide +kernel
theorem dX11_deleteOn_18 : decode cX11_deleteOn 18 = .ok (.istore 4, 2) := by decide +kernel
theorem dX11_deleteOn_20 : decode cX11_deleteOn 20 = .ok (.iload 4, 2) := by decide +kernel
theorem dX11_deleteOn_22 : decode cX11_deleteOn 22 = .ok (.aload_n 0, 1) := by decide +kernel
theorem dX11_deleteOn_23 : decode cX11_deleteOn 23 = .ok (.getfield 13, 3) := by decide +kernel
theorem dX11_deleteOn_26 : decode cX11_deleteOn 26 = .ok (.iload_n 3, 1) := by decide +kernel
theorem dX11_deleteOn_27 : decode cX11_deleteOn 27 = .ok (.iconst 0, 1) := by decide +kernel
theorem dX11_deleteOn_28 : decode cX11_deleteOn 28 = .ok (.iadd, 1) := by decide +kernel
theorem dX11_deleteOn_29 : decode cX11_deleteOn 29 = .ok (.iaload, 1) := by decide +kernel
theorem dX11_deleteOn_30 : decode cX11_deleteOn 30 = .ok (.if_icmp .ge 59, 3) := by decide +kernel
theorem dX11_deleteOn_33 : decode cX11_deleteOn 33 = .ok (.aload_n 0, 1) := by decide +kernel
theorem dX11_deleteOn_34 : decode cX11_deleteOn 34 = .ok (.getfield 13, 3) := by decide +kernel
theorem dX11_deleteOn_37 : decode cX11_deleteOn 37 = .ok (.iload_n 3, 1) := by decide +kernel
theorem dX11_deleteOn_38 : decode cX11_deleteOn 38 = .ok (.iconst 2, 1) := by decide +kernel
theorem dX11_deleteOn_39 : decode cX11_deleteOn 39 = .ok (.iadd, 1) := by decide +kernel
theorem dX11_deleteOn_40 : decode cX11_deleteOn 40 = .ok (.iload 4, 2) := by decide +kernel
theorem dX11_deleteOn_42 : decode cX11_deleteOn 42 = .ok (.iadd, 1) := by decide +kernel
theorem dX11_deleteOn_43 : decode cX11_deleteOn 43 = .ok (.aload_n 0, 1) := by decide +kernel
theorem dX11_deleteOn_44 : decode cX11_deleteOn 44 = .ok (.getfield 13, 3) := by decide +kernel
theorem dX11_deleteOn_47 : decode cX11_deleteOn 47 = .ok (.iload_n 3, 1) := by decide +kernel
theorem dX11_deleteOn_48 : decode cX11_deleteOn 48 = .ok (.iconst 2, 1) := by decide +kernel
theorem dX11_deleteOn_49 : decode cX11_deleteOn 49 = .ok (.iadd, 1) := by decide +kernel
theorem dX11_deleteOn_50 : decode cX11_deleteOn 50 = .ok (.iload 4, 2) := by decide +kernel
theorem dX11_deleteOn_52 : decode cX11_deleteOn 52 = .ok (.iadd, 1) := by decide +kernel
theorem dX11_deleteOn_53 : decode cX11_deleteOn 53 = .ok (.iconst 1, 1) := by decide +kernel
theorem dX11_deleteOn_54 : decode cX11_deleteOn 54 = .ok (.iadd, 1) := by decide +kernel
theorem dX11_deleteOn_55 : decode cX11_deleteOn 55 = .ok (.iaload, 1) := by decide +kernel
theorem dX11_deleteOn_56 : decode cX11_deleteOn 56 = .ok (.iastore, 1) := by decide +kernel
theorem dX11_deleteOn_57 : decode cX11_deleteOn 57 = .ok (.aload_n 0, 1) := by decide +kernel
theorem dX11_deleteOn_58 : decode cX11_deleteOn 58 = .ok (.getfield 13, 3) := by decide +kernel
theorem dX11_deleteOn_61 : decode cX11_deleteOn 61 = .ok (.iload_n 3, 1) := by decide +kernel
theorem dX11_deleteOn_62 : decode cX11_deleteOn 62 = .ok (.bipush 26, 2) := by decide +kernel
theorem dX11_deleteOn_64 : decode cX11_deleteOn 64 = .ok (.iadd, 1) := by decide +kernel
theorem dX11_deleteOn_65 : decode cX11_deleteOn 65 = .ok (.iload 4, 2) := by decide +kernel
theorem dX11_deleteOn_67 : decode cX11_deleteOn 67 = .ok (.iadd, 1) := by decide +kernel
theorem dX11_deleteOn_68 : decode cX11_deleteOn 68 = .ok (.aload_n 0, 1) := by decide +kernel
theorem dX11_deleteOn_69 : decode cX11_deleteOn 69 = .ok (.getfield 13, 3) := by decide +kernel
theorem dX11_deleteOn_72 : decode cX11_deleteOn 72 = .ok (.iload_n 3, 1) := by decide +kernel
theorem dX11_deleteOn_73 : decode cX11_deleteOn 73 = .ok (.bipush 26, 2) := by decide +kernel
theorem dX11_deleteOn_75 : decode cX11_deleteOn 75 = .ok (.iadd, 1) := by decide +kernel
theorem dX11_deleteOn_76 : decode cX11_deleteOn 76 = .ok (.iload 4, 2) := by decide +kernel
theorem dX11_deleteOn_78 : decode cX11_deleteOn 78 = .ok (.iadd, 1) := by decide +kernel
theorem dX11_deleteOn_79 : decode cX11_deleteOn 79 = .ok (.iconst 1, 1) := by decide +kernel
theorem dX11_deleteOn_80 : decode cX11_deleteOn 80 = .ok (.iadd, 1) := by decide +kernel
theorem dX11_deleteOn_81 : decode cX11_deleteOn 81 = .ok (.iaload, 1) := by decide +kernel
theorem dX11_deleteOn_82 : decode cX11_deleteOn 82 = .ok (.iastore, 1) := by decide +kernel
theorem dX11_deleteOn_83 : decode cX11_deleteOn 83 = .ok (.iinc 4 1, 3) := by decide +kernel
theorem dX11_deleteOn_86 : decode cX11_deleteOn 86 = .ok (.goto (-66), 3) := by decide +kernel
theorem dX11_deleteOn_89 : decode cX11_deleteOn 89 = .ok (.return_, 1) := by decide +kernel
set_option maxRecDepth 20000 in
theorem ggX11_readText_X11_in : GoodIn wsX11_readText wsX11_in := goodIn_r _ [10] (by decide +kernel) (by decide +kernel)
set_option maxRecDepth 20000 in
theorem gX11_readText_X11_in : GoodIn wsX11_readText (va_wsS RX11 59 yX11_in wsX11_in) := goodIn_app (goodIn_of _ (by decide +kernel)) ggX11_readText_X11_in
set_option maxRecDepth 20000 in
theorem ggX11_readText_X11_many : GoodIn wsX11_readText wsX11_many := goodIn_r _ [14, 1, 31, 32, 33, 34, 35, 36, 37, 38, 39, 40, 41, 42, 43, 44, 45, 46, 47, 48, 49, 50, 51, 52] (by decide +kernel) (by decide +kernel)
set_option maxRecDepth 20000 in
theorem gX11_readText_X11_many : GoodIn wsX11_readText (wsV RX11 66 RX11 yX11_many wsX11_many) := goodIn_app (goodIn_of _ (by decide +kernel)) ggX11_readText_X11_many
set_option maxRecDepth 20000 in
theorem ggX11_readText_X11_outOf : GoodIn wsX11_readText wsX11_outOf := goodIn_r _ [18, 11, 12, 13, 9, 14, 1, 19, 20, 21, 22, 31, 32, 33, 34, 35, 36, 37, 38, 39, 40, 41, 42, 43, 44, 45, 46, 47, 48, 49, 50, 51, 52] (by decide +kernel) (by decide +kernel)
set_option maxRecDepth 20000 in
theorem gX11_readText_X11_outOf : GoodIn wsX11_readText (wsV RX11 81 RX11 yX11_outOf wsX11_outOf) := goodIn_app (goodIn_of _ (by decide +kernel)) ggX11_readText_X11_outOf
set_option maxRecDepth 20000 in
theorem ggX11_readText_X11_find : GoodIn wsX11_readText wsX11_find := goodIn_r _ [26, 1, 11, 12, 13, 9, 14, 31, 32, 33, 34, 35, 36, 37, 38, 39, 40, 41, 42, 43, 44, 45, 46, 47, 48, 49, 50, 51, 52] (by decide +kernel) (by decide +kernel)
set_option maxRecDepth 20000 in
theorem gX11_readText_X11_find : GoodIn wsX11_readText (wsV RX11 84 RX11 yX11_find wsX11_find) := goodIn_app (goodIn_of _ (by decide +kernel)) ggX11_readText_X11_find
set_option maxRecDepth 20000 in
theorem ggX11_readText_X11_insertOn : GoodIn wsX11_readText wsX11_insertOn := goodIn_r _ [30, 1, 31, 32, 33, 34, 35, 36, 37, 38, 39, 40, 41, 42, 43, 44, 45, 46, 47, 48, 49, 50, 51, 52] (by decide +kernel) (by decide +kernel)
set_option maxRecDepth 20000 in
theorem gX11_readText_X11_insertOn : GoodIn wsX11_readText (wsV RX11 88 RX11 yX11_insertOn wsX11_insertOn) := goodIn_app (goodIn_of _ (by decide +kernel)) ggX11_readText_X11_insertOn
theorem dX11_readText_0 : decode cX11_readText 0 = .ok (.aload_n 0, 1) := by decide +kernel
theorem dX11_readText_1 : decode cX11_readText 1 = .ok (.getfield 13, 3) := by decide +kernel
theorem dX11_readText_4 : decode cX11_readText 4 = .ok (.bipush 50, 2) := by decide +kernel
theorem dX11_readText_6 : decode cX11_readText 6 = .ok (.iconst 0, 1) := by decide +kernel
theorem dX11_readText_7 : decode cX11_readText 7 = .ok (.iastore, 1) := by decide +kernel
theorem dX11_readText_8 : decode cX11_readText 8 = .ok (.aload_n 0, 1) := by decide +kernel
theorem dX11_readText_9 : decode cX11_readText 9 = .ok (.getfield 13, 3) := by decide +kernel
theorem dX11_readText_12 : decode cX11_readText 12 = .ok (.bipush 51, 2) := by decide +kernel
theorem dX11_readText_14 : decode cX11_readText 14 = .ok (.iconst 1, 1) := by decide +kernel
theorem dX11_readText_15 : decode cX11_readText 15 = .ok (.iastore, 1) := by decide +kernel
theorem dX11_readText_16 : decode cX11_readText 16 = .ok (.aload_n 0, 1) := by decide +kernel
theorem dX11_readText_17 : decode cX11_readText 17 = .ok (.getfield 63, 3) := by decide +kernel
theorem dX11_readText_20 : decode cX11_readText 20 = .ok (.ifCond .eq 14, 3) := by decide +kernel
theorem dX11_readText_23 : decode cX11_readText 23 = .ok (.aload_n 0, 1) := by decide +kernel
theorem dX11_readText_24 : decode cX11_readText 24 = .ok (.getfield 17, 3) := by decide +kernel
theorem dX11_readText_27 : decode cX11_readText 27 = .ok (.iconst 0, 1) := by decide +kernel
theorem dX11_readText_28 : decode cX11_readText 28 = .ok (.iaload, 1) := by decide +kernel
theorem dX11_readText_29 : decode cX11_readText 29 = .ok (.bipush 68, 2) := by decide +kernel
theorem dX11_readText_31 : decode cX11_readText 31 = .ok (.if_icmp .eq 5, 3) := by decide +kernel
theorem dX11_readText_34 : decode cX11_readText 34 = .ok (.iconst 0, 1) := by decide +kernel
theorem dX11_readText_35 : decode cX11_readText 35 = .ok (.ireturn, 1) := by decide +kernel
theorem dX11_readText_36 : decode cX11_readText 36 = .ok (.aload_n 0, 1) := by decide +kernel
theorem dX11_readText_37 : decode cX11_readText 37 = .ok (.getfield 63, 3) := by decide +kernel
theorem dX11_readText_40 : decode cX11_readText 40 = .ok (.iconst 1, 1) := by decide +kernel
theorem dX11_readText_41 : decode cX11_readText 41 = .ok (.if_icmp .eq 22, 3) := by decide +kernel
theorem dX11_readText_44 : decode cX11_readText 44 = .ok (.aload_n 0, 1) := by decide +kernel
theorem dX11_readText_45 : decode cX11_readText 45 = .ok (.getfield 17, 3) := by decide +kernel
theorem dX11_readText_48 : decode cX11_readText 48 = .ok (.iconst 1, 1) := by decide +kernel
theorem dX11_readText_49 : decode cX11_readText 49 = .ok (.iaload, 1) := by decide +kernel
theorem dX11_readText_50 : decode cX11_readText 50 = .ok (.i2l, 1) := by decide +kernel
theorem dX11_readText_51 : decode cX11_readText 51 = .ok (.ldc2_w 74, 3) := by decide +kernel
theorem dX11_readText_54 : decode cX11_readText 54 = .ok (.ldc2_w 76, 3) := by decide +kernel
theorem dX11_readText_57 : decode cX11_readText 57 = .ok (.invokestatic 59, 3) := by decide +kernel
theorem dX11_readText_60 : decode cX11_readText 60 = .ok (.ifCond .ne 5, 3) := by decide +kernel
theorem dX11_readText_63 : decode cX11_readText 63 = .ok (.iconst 1, 1) := by decide +kernel
theorem dX11_readText_64 : decode cX11_readText 64 = .ok (.ireturn, 1) := by decide +kernel
theorem dX11_readText_65 : decode cX11_readText 65 = .ok (.aload_n 0, 1) := by decide +kernel
theorem dX11_readText_66 : decode cX11_readText 66 = .ok (.aload_n 0, 1) := by decide +kernel
theorem dX11_readText_67 : decode cX11_readText 67 = .ok (.getfield 17, 3) := by decide +kernel
theorem dX11_readText_70 : decode cX11_readText 70 = .ok (.iconst 1, 1) := by decide +kernel
theorem dX11_readText_71 : decode cX11_readText 71 = .ok (.iaload, 1) := by decide +kernel
theorem dX11_readText_72 : decode cX11_readText 72 = .ok (.bipush 48, 2) := by decide +kernel
theorem dX11_readText_74 : decode cX11_readText 74 = .ok (.isub, 1) := by decide +kernel
theorem dX11_readText_75 : decode cX11_readText 75 = .ok (.putfield 78, 3) := by decide +kernel
theorem dX11_readText_78 : decode cX11_readText 78 = .ok (.iconst 2, 1) := by decide +kernel
theorem dX11_readText_79 : decode cX11_readText 79 = .ok (.istore_n 1, 1) := by decide +kernel
theorem dX11_readText_80 : decode cX11_readText 80 = .ok (.iload_n 1, 1) := by decide +kernel
theorem dX11_readText_81 : decode cX11_readText 81 = .ok (.aload_n 0, 1) := by decide +kernel
theorem dX11_readText_82 : decode cX11_readText 82 = .ok (.getfield 63, 3) := by decide +kernel
theorem dX11_readText_85 : decode cX11_readText 85 = .ok (.if_icmp .ge 133, 3) := by decide +kernel
theorem dX11_readText_88 : decode cX11_readText 88 = .ok (.aload_n 0, 1) := by decide +kernel
theorem dX11_readText_89 : decode cX11_readText 89 = .ok (.getfield 17, 3) := by decide +kernel
theorem dX11_readText_92 : decode cX11_readText 92 = .ok (.iload_n 1, 1) := by decide +kernel
theorem dX11_readText_93 : decode cX11_readText 93 = .ok (.iaload, 1) := by decide +kernel
theorem dX11_readText_94 : decode cX11_readText 94 = .ok (.bipush 48, 2) := by decide +kernel
theorem dX11_readText_96 : decode cX11_readText 96 = .ok (.isub, 1) := by decide +kernel
theorem dX11_readText_97 : decode cX11_readText 97 = .ok (.istore_n 2, 1) := by decide +kernel
theorem dX11_readText_98 : decode cX11_readText 98 = .ok (.iload_n 2, 1) := by decide +kernel
theorem dX11_readText_99 : decode cX11_readText 99 = .ok (.i2l, 1) := by decide +kernel
theorem dX11_readText_100 : decode cX11_readText 100 = .ok (.lconst 0, 1) := by decide +kernel
theorem dX11_readText_101 : decode cX11_readText 101 = .ok (.aload_n 0, 1) := by decide +kernel
theorem dX11_readText_102 : decode cX11_readText 102 = .ok (.getfield 78, 3) := by decide +kernel
theorem dX11_readText_105 : decode cX11_readText 105 = .ok (.iconst 1, 1) := by decide +kernel
theorem dX11_readText_106 : decode cX11_readText 106 = .ok (.isub, 1) := by decide +kernel
theorem dX11_readText_107 : decode cX11_readText 107 = .ok (.i2l, 1) := by decide +kernel
theorem dX11_readText_108 : decode cX11_readText 108 = .ok (.invokestatic 59, 3) := by decide +kernel
theorem dX11_readText_111 : decode cX11_readText 111 = .ok (.ifCond .eq 28, 3) := by decide +kernel
theorem dX11_readText_114 : decode cX11_readText 114 = .ok (.aload_n 0, 1) := by decide +kernel
theorem dX11_readText_115 : decode cX11_readText 115 = .ok (.iconst 1, 1) := by decide +kernel
theorem dX11_readText_116 : decode cX11_readText 116 = .ok (.invokevirtual 66, 3) := by decide +kernel
theorem dX11_readText_119 : decode cX11_readText 119 = .ok (.bipush 24, 2) := by decide +kernel
theorem dX11_readText_121 : decode cX11_readText 121 = .ok (.if_icmp .eq 18, 3) := by decide +kernel
theorem dX11_readText_124 : decode cX11_readText 124 = .ok (.aload_n 0, 1) := by decide +kernel
theorem dX11_readText_125 : decode cX11_readText 125 = .ok (.iconst 1, 1) := by decide +kernel
theorem dX11_readText_126 : decode cX11_readText 126 = .ok (.iload_n 2, 1) := by decide +kernel
theorem dX11_readText_127 : decode cX11_readText 127 = .ok (.invokevirtual 81, 3) := by decide +kernel
theorem dX11_readText_130 : decode cX11_readText 130 = .ok (.aload_n 0, 1) := by decide +kernel
theorem dX11_readText_131 : decode cX11_readText 131 = .ok (.getfield 78, 3) := by decide +kernel
theorem dX11_readText_134 : decode cX11_readText 134 = .ok (.iconst 1, 1) := by decide +kernel
theorem dX11_readText_135 : decode cX11_readText 135 = .ok (.isub, 1) := by decide +kernel
theorem dX11_readText_136 : decode cX11_readText 136 = .ok (.if_icmp .ne 5, 3) := by decide +kernel
theorem dX11_readText_139 : decode cX11_readText 139 = .ok (.iload_n 1, 1) := by decide +kernel
theorem dX11_readText_140 : decode cX11_readText 140 = .ok (.ireturn, 1) := by decide +kernel
theorem dX11_readText_141 : decode cX11_readText 141 = .ok (.iload_n 1, 1) := by decide +kernel
theorem dX11_readText_142 : decode cX11_readText 142 = .ok (.iconst 1, 1) := by decide +kernel
theorem dX11_readText_143 : decode cX11_readText 143 = .ok (.iadd, 1) := by decide +kernel
theorem dX11_readText_144 : decode cX11_readText 144 = .ok (.aload_n 0, 1) := by decide +kernel
theorem dX11_readText_145 : decode cX11_readText 145 = .ok (.getfield 63, 3) := by decide +kernel
theorem dX11_readText_148 : decode cX11_readText 148 = .ok (.if_icmp .ge 17, 3) := by decide +kernel
theorem dX11_readText_151 : decode cX11_readText 151 = .ok (.aload_n 0, 1) := by decide +kernel
theorem dX11_readText_152 : decode cX11_readText 152 = .ok (.getfield 17, 3) := by decide +kernel
theorem dX11_readText_155 : decode cX11_readText 155 = .ok (.iload_n 1, 1) := by decide +kernel
theorem dX11_readText_156 : decode cX11_readText 156 = .ok (.iconst 1, 1) := by decide +kernel
theorem dX11_readText_157 : decode cX11_readText 157 = .ok (.iadd, 1) := by decide +kernel
theorem dX11_readText_158 : decode cX11_readText 158 = .ok (.iaload, 1) := by decide +kernel
theorem dX11_readText_159 : decode cX11_readText 159 = .ok (.bipush 48, 2) := by decide +kernel
theorem dX11_readText_161 : decode cX11_readText 161 = .ok (.isub, 1) := by decide +kernel
theorem dX11_readText_162 : decode cX11_readText 162 = .ok (.goto 5, 3) := by decide +kernel
theorem dX11_readText_165 : decode cX11_readText 165 = .ok (.bipush (-9), 2) := by decide +kernel
theorem dX11_readText_167 : decode cX11_readText 167 = .ok (.istore_n 3, 1) := by decide +kernel
theorem dX11_readText_168 : decode cX11_readText 168 = .ok (.iload_n 3, 1) := by decide +kernel
theorem dX11_readText_169 : decode cX11_readText 169 = .ok (.i2l, 1) := by decide +kernel
theorem dX11_readText_170 : decode cX11_readText 170 = .ok (.lconst 0, 1) := by decide +kernel
theorem dX11_readText_171 : decode cX11_readText 171 = .ok (.aload_n 0, 1) := by decide +kernel
theorem dX11_readText_172 : decode cX11_readText 172 = .ok (.getfield 78, 3) := by decide +kernel
theorem dX11_readText_175 : decode cX11_readText 175 = .ok (.iconst 1, 1) := by decide +kernel
theorem dX11_readText_176 : decode cX11_readText 176 = .ok (.isub, 1) := by decide +kernel
theorem dX11_readText_177 : decode cX11_readText 177 = .ok (.i2l, 1) := by decide +kernel
theorem dX11_readText_178 : decode cX11_readText 178 = .ok (.invokestatic 59, 3) := by decide +kernel
theorem dX11_readText_181 : decode cX11_readText 181 = .ok (.ifCond .eq 20, 3) := by decide +kernel
theorem dX11_readText_184 : decode cX11_readText 184 = .ok (.iload_n 3, 1) := by decide +kernel
theorem dX11_readText_185 : decode cX11_readText 185 = .ok (.iload_n 2, 1) := by decide +kernel
theorem dX11_readText_186 : decode cX11_readText 186 = .ok (.if_icmp .eq 15, 3) := by decide +kernel
theorem dX11_readText_189 : decode cX11_readText 189 = .ok (.aload_n 0, 1) := by decide +kernel
theorem dX11_readText_190 : decode cX11_readText 190 = .ok (.iconst 1, 1) := by decide +kernel
theorem dX11_readText_191 : decode cX11_readText 191 = .ok (.iload_n 2, 1) := by decide +kernel
theorem dX11_readText_192 : decode cX11_readText 192 = .ok (.iload_n 3, 1) := by decide +kernel
theorem dX11_readText_193 : decode cX11_readText 193 = .ok (.invokevirtual 84, 3) := by decide +kernel
theorem dX11_readText_196 : decode cX11_readText 196 = .ok (.bipush (-9), 2) := by decide +kernel
theorem dX11_readText_198 : decode cX11_readText 198 = .ok (.if_icmp .eq 7, 3) := by decide +kernel
theorem dX11_readText_201 : decode cX11_readText 201 = .ok (.iload_n 1, 1) := by decide +kernel
theorem dX11_readText_202 : decode cX11_readText 202 = .ok (.iconst 1, 1) := by decide +kernel
theorem dX11_readText_203 : decode cX11_readText 203 = .ok (.iadd, 1) := by decide +kernel
theorem dX11_readText_204 : decode cX11_readText 204 = .ok (.ireturn, 1) := by decide +kernel
theorem dX11_readText_205 : decode cX11_readText 205 = .ok (.aload_n 0, 1) := by decide +kernel
theorem dX11_readText_206 : decode cX11_readText 206 = .ok (.iconst 1, 1) := by decide +kernel
theorem dX11_readText_207 : decode cX11_readText 207 = .ok (.iload_n 2, 1) := by decide +kernel
theorem dX11_readText_208 : decode cX11_readText 208 = .ok (.iload_n 3, 1) := by decide +kernel
theorem dX11_readText_209 : decode cX11_readText 209 = .ok (.invokevirtual 88, 3) := by decide +kernel
theorem dX11_readText_212 : decode cX11_readText 212 = .ok (.iinc 1 2, 3) := by decide +kernel
theorem dX11_readText_215 : decode cX11_readText 215 = .ok (.goto (-135), 3) := by decide +kernel
theorem dX11_readText_218 : decode cX11_readText 218 = .ok (.bipush (-9), 2) := by decide +kernel
theorem dX11_readText_220 : decode cX11_readText 220 = .ok (.ireturn, 1) := by decide +kernel
set_option maxRecDepth 20000 in
theorem ggX11_fault_X11_readText : GoodIn wsX11_fault wsX11_readText := goodIn_r _ [5, 6, 7, 8, 9, 10, 11, 12, 13, 4, 14, 15, 16, 17, 18, 19, 20, 21, 22, 23, 24, 25, 26, 27, 28, 29, 30, 31, 32, 33, 34, 35, 36, 37, 38, 39, 40, 41, 42, 43, 44, 45, 46, 47, 48, 49, 50, 51, 52, 53, 54, 55, 56] (by decide +kernel) (by decide +kernel)
set_option maxRecDepth 20000 in
theorem gX11_fault_X11_readText : GoodIn wsX11_fault (wsV RX11 92 RX11 yX11_readText wsX11_readText) := goodIn_app (goodIn_of _ (by decide +kernel)) ggX11_fault_X11_readText
theorem dX11_fault_0 : decode cX11_fault 0 = .ok (.aload_n 0, 1) := by decide +kernel
theorem dX11_fault_1 : decode cX11_fault 1 = .ok (.invokevirtual 92, 3) := by decide +kernel
theorem dX11_fault_4 : decode cX11_fault 4 = .ok (.ireturn, 1) := by decide +kernel
set_option maxRecDepth 20000 in
theorem ggX11_graph_X11_readText : GoodIn wsX11_graph wsX11_readText := goodIn_r _ [10, 3, 11, 12, 13, 14, 1, 15, 16, 9, 17, 18, 19, 20, 21, 22, 23, 24, 25, 26, 27, 28, 29, 30, 31, 32, 33, 34, 35, 36, 37, 38, 39, 40, 41, 42, 43, 44, 45, 46, 47, 48, 49, 50, 51, 52, 53, 54, 55, 56, 57, 58, 59] (by decide +kernel) (by decide +kernel)
set_option maxRecDepth 20000 in
theorem gX11_graph_X11_readText : GoodIn wsX11_graph (wsV RX11 92 RX11 yX11_readText wsX11_readText) := goodIn_app (goodIn_of _ (by decide +kernel)) ggX11_graph_X11_readText
set_option maxRecDepth 20000 in
theorem ggX11_graph_X11_many : GoodIn wsX11_graph wsX11_many := goodIn_r _ [21, 3, 38, 39, 40, 41, 42, 43, 44, 45, 46, 47, 48, 49, 50, 51, 52, 53, 54, 55, 56, 57, 58, 59] (by decide +kernel) (by decide +kernel)
set_option maxRecDepth 20000 in
theorem gX11_graph_X11_many : GoodIn wsX11_graph (wsV RX11 66 RX11 yX11_many wsX11_many) := goodIn_app (goodIn_of _ (by decide +kernel)) ggX11_graph_X11_many
theorem dX11_graph_0 : decode cX11_graph 0 = .ok (.aload_n 0, 1) := by decide +kernel
theorem dX11_graph_1 : decode cX11_graph 1 = .ok (.invokevirtual 92, 3) := by decide +kernel
theorem dX11_graph_4 : decode cX11_graph 4 = .ok (.bipush (-9), 2) := by decide +kernel
theorem dX11_graph_6 : decode cX11_graph 6 = .ok (.if_icmp .eq 6, 3) := by decide +kernel
theorem dX11_graph_9 : decode cX11_graph 9 = .ok (.bipush (-3), 2) := by decide +kernel
theorem dX11_graph_11 : decode cX11_graph 11 = .ok (.ireturn, 1) := by decide +kernel
theorem dX11_graph_12 : decode cX11_graph 12 = .ok (.aload_n 0, 1) := by decide +kernel
theorem dX11_graph_13 : decode cX11_graph 13 = .ok (.aload_n 0, 1) := by decide +kernel
theorem dX11_graph_14 : decode cX11_graph 14 = .ok (.getfield 78, 3) := by decide +kernel
theorem dX11_graph_17 : decode cX11_graph 17 = .ok (.putfield 7, 3) := by decide +kernel
theorem dX11_graph_20 : decode cX11_graph 20 = .ok (.iconst 0, 1) := by decide +kernel
theorem dX11_graph_21 : decode cX11_graph 21 = .ok (.istore_n 1, 1) := by decide +kernel
theorem dX11_graph_22 : decode cX11_graph 22 = .ok (.iload_n 1, 1) := by decide +kernel
theorem dX11_graph_23 : decode cX11_graph 23 = .ok (.bipush 50, 2) := by decide +kernel
theorem dX11_graph_25 : decode cX11_graph 25 = .ok (.if_icmp .ge 24, 3) := by decide +kernel
theorem dX11_graph_28 : decode cX11_graph 28 = .ok (.aload_n 0, 1) := by decide +kernel
theorem dX11_graph_29 : decode cX11_graph 29 = .ok (.getfield 13, 3) := by decide +kernel
theorem dX11_graph_32 : decode cX11_graph 32 = .ok (.iload_n 1, 1) := by decide +kernel
theorem dX11_graph_33 : decode cX11_graph 33 = .ok (.aload_n 0, 1) := by decide +kernel
theorem dX11_graph_34 : decode cX11_graph 34 = .ok (.getfield 13, 3) := by decide +kernel
theorem dX11_graph_37 : decode cX11_graph 37 = .ok (.bipush 50, 2) := by decide +kernel
theorem dX11_graph_39 : decode cX11_graph 39 = .ok (.iload_n 1, 1) := by decide +kernel
theorem dX11_graph_40 : decode cX11_graph 40 = .ok (.iadd, 1) := by decide +kernel
theorem dX11_graph_41 : decode cX11_graph 41 = .ok (.iaload, 1) := by decide +kernel
theorem dX11_graph_42 : decode cX11_graph 42 = .ok (.iastore, 1) := by decide +kernel
theorem dX11_graph_43 : decode cX11_graph 43 = .ok (.iinc 1 1, 3) := by decide +kernel
theorem dX11_graph_46 : decode cX11_graph 46 = .ok (.goto (-24), 3) := by decide +kernel
theorem dX11_graph_49 : decode cX11_graph 49 = .ok (.aload_n 0, 1) := by decide +kernel
theorem dX11_graph_50 : decode cX11_graph 50 = .ok (.iconst 0, 1) := by decide +kernel
theorem dX11_graph_51 : decode cX11_graph 51 = .ok (.putfield 96, 3) := by decide +kernel
theorem dX11_graph_54 : decode cX11_graph 54 = .ok (.aload_n 0, 1) := by decide +kernel
theorem dX11_graph_55 : decode cX11_graph 55 = .ok (.getfield 50, 3) := by decide +kernel
theorem dX11_graph_58 : decode cX11_graph 58 = .ok (.iconst 0, 1) := by decide +kernel
theorem dX11_graph_59 : decode cX11_graph 59 = .ok (.iconst 0, 1) := by decide +kernel
theorem dX11_graph_60 : decode cX11_graph 60 = .ok (.bastore, 1) := by decide +kernel
theorem dX11_graph_61 : decode cX11_graph 61 = .ok (.aload_n 0, 1) := by decide +kernel
theorem dX11_graph_62 : decode cX11_graph 62 = .ok (.getfield 50, 3) := by decide +kernel
theorem dX11_graph_65 : decode cX11_graph 65 = .ok (.iconst 1, 1) := by decide +kernel
theorem dX11_graph_66 : decode cX11_graph 66 = .ok (.iconst 0, 1) := by decide +kernel
theorem dX11_graph_67 : decode cX11_graph 67 = .ok (.bastore, 1) := by decide +kernel
theorem dX11_graph_68 : decode cX11_graph 68 = .ok (.aload_n 0, 1) := by decide +kernel
theorem dX11_graph_69 : decode cX11_graph 69 = .ok (.iconst 0, 1) := by decide +kernel
theorem dX11_graph_70 : decode cX11_graph 70 = .ok (.invokevirtual 66, 3) := by decide +kernel
theorem dX11_graph_73 : decode cX11_graph 73 = .ok (.ireturn, 1) := by decide +kernel
set_option maxRecDepth 20000 in
theorem ggX11_isKnot_X11_in : GoodIn wsX11_isKnot wsX11_in := goodIn_r _ [5] (by decide +kernel) (by decide +kernel)
set_option maxRecDepth 20000 in
theorem gX11_isKnot_X11_in : GoodIn wsX11_isKnot (va_wsS RX11 59 yX11_in wsX11_in) := goodIn_app (goodIn_of _ (by decide +kernel)) ggX11_isKnot_X11_in
theorem dX11_isKnot_0 : decode cX11_isKnot 0 = .ok (.iload_n 1, 1) := by decide +kernel
theorem dX11_isKnot_1 : decode cX11_isKnot 1 = .ok (.i2l, 1) := by decide +kernel
theorem dX11_isKnot_2 : decode cX11_isKnot 2 = .ok (.lconst 0, 1) := by decide +kernel
theorem dX11_isKnot_3 : decode cX11_isKnot 3 = .ok (.aload_n 0, 1) := by decide +kernel
theorem dX11_isKnot_4 : decode cX11_isKnot 4 = .ok (.getfield 7, 3) := by decide +kernel
theorem dX11_isKnot_7 : decode cX11_isKnot 7 = .ok (.iconst 1, 1) := by decide +kernel
theorem dX11_isKnot_8 : decode cX11_isKnot 8 = .ok (.isub, 1) := by decide +kernel
theorem dX11_isKnot_9 : decode cX11_isKnot 9 = .ok (.i2l, 1) := by decide +kernel
theorem dX11_isKnot_10 : decode cX11_isKnot 10 = .ok (.invokestatic 59, 3) := by decide +kernel
theorem dX11_isKnot_13 : decode cX11_isKnot 13 = .ok (.ireturn, 1) := by decide +kernel
set_option maxRecDepth 20000 in
theorem ggX11_reachedBy_X11_many : GoodIn wsX11_reachedBy wsX11_many := goodIn_r _ [5, 6, 18, 19, 20, 21, 22, 23, 24, 25, 26, 27, 28, 29, 30, 31, 32, 33, 34, 35, 36, 37, 38, 39] (by decide +kernel) (by decide +kernel)
set_option maxRecDepth 20000 in
theorem gX11_reachedBy_X11_many : GoodIn wsX11_reachedBy (wsV RX11 66 RX11 yX11_many wsX11_many) := goodIn_app (goodIn_of _ (by decide +kernel)) ggX11_reachedBy_X11_many
set_option maxRecDepth 20000 in
theorem ggX11_reachedBy_X11_fromOf : GoodIn wsX11_reachedBy wsX11_fromOf := goodIn_r _ [10, 6, 18, 19, 20, 21, 22, 23, 24, 25, 26, 27, 28, 29, 30, 31, 32, 33, 34, 35, 36, 37, 38, 39] (by decide +kernel) (by decide +kernel)
set_option maxRecDepth 20000 in
theorem gX11_reachedBy_X11_fromOf : GoodIn wsX11_reachedBy (wsV RX11 70 RX11 yX11_fromOf wsX11_fromOf) := goodIn_app (goodIn_of _ (by decide +kernel)) ggX11_reachedBy_X11_fromOf
set_option maxRecDepth 20000 in
theorem ggX11_reachedBy_X11_toOf : GoodIn wsX11_reachedBy wsX11_toOf := goodIn_r _ [14, 6, 18, 19, 20, 21, 22, 23, 24, 25, 26, 27, 28, 29, 30, 31, 32, 33, 34, 35, 36, 37, 38, 39] (by decide +kernel) (by decide +kernel)
set_option maxRecDepth 20000 in
theorem gX11_reachedBy_X11_toOf : GoodIn wsX11_reachedBy (wsV RX11 99 RX11 yX11_toOf wsX11_toOf) := goodIn_app (goodIn_of _ (by decide +kernel)) ggX11_reachedBy_X11_toOf
set_option maxRecDepth 20000 in
theorem ggX11_reachedBy_X11_has : GoodIn wsX11_reachedBy wsX11_has := goodIn_r _ [17] (by decide +kernel) (by decide +kernel)
set_option maxRecDepth 20000 in
theorem gX11_reachedBy_X11_has : GoodIn wsX11_reachedBy (va_wsS RX11 102 yX11_has wsX11_has) := goodIn_app (goodIn_of _ (by decide +kernel)) ggX11_reachedBy_X11_has
theorem dX11_reachedBy_0 : decode cX11_reachedBy 0 = .ok (.iload_n 2, 1) := by decide +kernel
theorem dX11_reachedBy_1 : decode cX11_reachedBy 1 = .ok (.ifCond .ne 7, 3) := by decide +kernel
theorem dX11_reachedBy_4 : decode cX11_reachedBy 4 = .ok (.iconst 0, 1) := by decide +kernel
theorem dX11_reachedBy_5 : decode cX11_reachedBy 5 = .ok (.goto 4, 3) := by decide +kernel
theorem dX11_reachedBy_8 : decode cX11_reachedBy 8 = .ok (.iconst 1, 1) := by decide +kernel
theorem dX11_reachedBy_9 : decode cX11_reachedBy 9 = .ok (.istore 5, 2) := by decide +kernel
theorem dX11_reachedBy_11 : decode cX11_reachedBy 11 = .ok (.iconst 0, 1) := by decide +kernel
theorem dX11_reachedBy_12 : decode cX11_reachedBy 12 = .ok (.istore 6, 2) := by decide +kernel
theorem dX11_reachedBy_14 : decode cX11_reachedBy 14 = .ok (.iload 6, 2) := by decide +kernel
theorem dX11_reachedBy_16 : decode cX11_reachedBy 16 = .ok (.bipush 8, 2) := by decide +kernel
theorem dX11_reachedBy_18 : decode cX11_reachedBy 18 = .ok (.if_icmp .ge 122, 3) := by decide +kernel
theorem dX11_reachedBy_21 : decode cX11_reachedBy 21 = .ok (.iconst 0, 1) := by decide +kernel
theorem dX11_reachedBy_22 : decode cX11_reachedBy 22 = .ok (.istore 7, 2) := by decide +kernel
theorem dX11_reachedBy_24 : decode cX11_reachedBy 24 = .ok (.iconst 0, 1) := by decide +kernel
theorem dX11_reachedBy_25 : decode cX11_reachedBy 25 = .ok (.istore 8, 2) := by decide +kernel
theorem dX11_reachedBy_27 : decode cX11_reachedBy 27 = .ok (.iload 8, 2) := by decide +kernel
theorem dX11_reachedBy_29 : decode cX11_reachedBy 29 = .ok (.aload_n 0, 1) := by decide +kernel
theorem dX11_reachedBy_30 : decode cX11_reachedBy 30 = .ok (.iload_n 1, 1) := by decide +kernel
theorem dX11_reachedBy_31 : decode cX11_reachedBy 31 = .ok (.invokevirtual 66, 3) := by decide +kernel
theorem dX11_reachedBy_34 : decode cX11_reachedBy 34 = .ok (.if_icmp .ge 100, 3) := by decide +kernel
theorem dX11_reachedBy_37 : decode cX11_reachedBy 37 = .ok (.aload_n 0, 1) := by decide +kernel
theorem dX11_reachedBy_38 : decode cX11_reachedBy 38 = .ok (.iload_n 1, 1) := by decide +kernel
theorem dX11_reachedBy_39 : decode cX11_reachedBy 39 = .ok (.iload 8, 2) := by decide +kernel
theorem dX11_reachedBy_41 : decode cX11_reachedBy 41 = .ok (.invokevirtual 70, 3) := by decide +kernel
theorem dX11_reachedBy_44 : decode cX11_reachedBy 44 = .ok (.istore 9, 2) := by decide +kernel
theorem dX11_reachedBy_46 : decode cX11_reachedBy 46 = .ok (.aload_n 0, 1) := by decide +kernel
theorem dX11_reachedBy_47 : decode cX11_reachedBy 47 = .ok (.iload_n 1, 1) := by decide +kernel
theorem dX11_reachedBy_48 : decode cX11_reachedBy 48 = .ok (.iload 8, 2) := by decide +kernel
theorem dX11_reachedBy_50 : decode cX11_reachedBy 50 = .ok (.invokevirtual 99, 3) := by decide +kernel
theorem dX11_reachedBy_53 : decode cX11_reachedBy 53 = .ok (.istore 10, 2) := by decide +kernel
theorem dX11_reachedBy_55 : decode cX11_reachedBy 55 = .ok (.iload 9, 2) := by decide +kernel
theorem dX11_reachedBy_57 : decode cX11_reachedBy 57 = .ok (.iload_n 3, 1) := by decide +kernel
theorem dX11_reachedBy_58 : decode cX11_reachedBy 58 = .ok (.if_icmp .ne 13, 3) := by decide +kernel
theorem dX11_reachedBy_61 : decode cX11_reachedBy 61 = .ok (.iload 4, 2) := by decide +kernel
theorem dX11_reachedBy_63 : decode cX11_reachedBy 63 = .ok (.iload 7, 2) := by decide +kernel
theorem dX11_reachedBy_65 : decode cX11_reachedBy 65 = .ok (.invokestatic 102, 3) := by decide +kernel
theorem dX11_reachedBy_68 : decode cX11_reachedBy 68 = .ok (.ifCond .eq 7, 3) := by decide +kernel
theorem dX11_reachedBy_71 : decode cX11_reachedBy 71 = .ok (.iconst 1, 1) := by decide +kernel
theorem dX11_reachedBy_72 : decode cX11_reachedBy 72 = .ok (.goto 4, 3) := by decide +kernel
theorem dX11_reachedBy_75 : decode cX11_reachedBy 75 = .ok (.iconst 0, 1) := by decide +kernel
theorem dX11_reachedBy_76 : decode cX11_reachedBy 76 = .ok (.istore 11, 2) := by decide +kernel
theorem dX11_reachedBy_78 : decode cX11_reachedBy 78 = .ok (.iload 7, 2) := by decide +kernel
theorem dX11_reachedBy_80 : decode cX11_reachedBy 80 = .ok (.iload 9, 2) := by decide +kernel
theorem dX11_reachedBy_82 : decode cX11_reachedBy 82 = .ok (.iload_n 3, 1) := by decide +kernel
theorem dX11_reachedBy_83 : decode cX11_reachedBy 83 = .ok (.if_icmp .ne 7, 3) := by decide +kernel
theorem dX11_reachedBy_86 : decode cX11_reachedBy 86 = .ok (.iconst 1, 1) := by decide +kernel
theorem dX11_reachedBy_87 : decode cX11_reachedBy 87 = .ok (.goto 4, 3) := by decide +kernel
theorem dX11_reachedBy_90 : decode cX11_reachedBy 90 = .ok (.iconst 0, 1) := by decide +kernel
theorem dX11_reachedBy_91 : decode cX11_reachedBy 91 = .ok (.iadd, 1) := by decide +kernel
theorem dX11_reachedBy_92 : decode cX11_reachedBy 92 = .ok (.istore 7, 2) := by decide +kernel
theorem dX11_reachedBy_94 : decode cX11_reachedBy 94 = .ok (.iload 5, 2) := by decide +kernel
theorem dX11_reachedBy_96 : decode cX11_reachedBy 96 = .ok (.iload 11, 2) := by decide +kernel
theorem dX11_reachedBy_98 : decode cX11_reachedBy 98 = .ok (.ifCond .eq 26, 3) := by decide +kernel
theorem dX11_reachedBy_101 : decode cX11_reachedBy 101 = .ok (.iload 5, 2) := by decide +kernel
theorem dX11_reachedBy_103 : decode cX11_reachedBy 103 = .ok (.iload 9, 2) := by decide +kernel
theorem dX11_reachedBy_105 : decode cX11_reachedBy 105 = .ok (.invokestatic 102, 3) := by decide +kernel
theorem dX11_reachedBy_108 : decode cX11_reachedBy 108 = .ok (.ifCond .eq 16, 3) := by decide +kernel
theorem dX11_reachedBy_111 : decode cX11_reachedBy 111 = .ok (.iload 10, 2) := by decide +kernel
theorem dX11_reachedBy_113 : decode cX11_reachedBy 113 = .ok (.iload_n 2, 1) := by decide +kernel
theorem dX11_reachedBy_114 : decode cX11_reachedBy 114 = .ok (.if_icmp .eq 10, 3) := by decide +kernel
theorem dX11_reachedBy_117 : decode cX11_reachedBy 117 = .ok (.iconst 1, 1) := by decide +kernel
theorem dX11_reachedBy_118 : decode cX11_reachedBy 118 = .ok (.iload 10, 2) := by decide +kernel
theorem dX11_reachedBy_120 : decode cX11_reachedBy 120 = .ok (.ishl, 1) := by decide +kernel
theorem dX11_reachedBy_121 : decode cX11_reachedBy 121 = .ok (.goto 4, 3) := by decide +kernel
theorem dX11_reachedBy_124 : decode cX11_reachedBy 124 = .ok (.iconst 0, 1) := by decide +kernel
theorem dX11_reachedBy_125 : decode cX11_reachedBy 125 = .ok (.ior, 1) := by decide +kernel
theorem dX11_reachedBy_126 : decode cX11_reachedBy 126 = .ok (.istore 5, 2) := by decide +kernel
theorem dX11_reachedBy_128 : decode cX11_reachedBy 128 = .ok (.iinc 8 1, 3) := by decide +kernel
theorem dX11_reachedBy_131 : decode cX11_reachedBy 131 = .ok (.goto (-104), 3) := by decide +kernel
theorem dX11_reachedBy_134 : decode cX11_reachedBy 134 = .ok (.iinc 6 1, 3) := by decide +kernel
theorem dX11_reachedBy_137 : decode cX11_reachedBy 137 = .ok (.goto (-123), 3) := by decide +kernel
theorem dX11_reachedBy_140 : decode cX11_reachedBy 140 = .ok (.iload 5, 2) := by decide +kernel
theorem dX11_reachedBy_142 : decode cX11_reachedBy 142 = .ok (.ireturn, 1) := by decide +kernel
set_option maxRecDepth 20000 in
theorem ggX11_findCovers_X11_reachedBy : GoodIn wsX11_findCovers wsX11_reachedBy := goodIn_r _ [7, 8, 9, 10, 6, 11, 12, 13, 14, 15, 16, 17, 18, 19, 20, 21, 22, 23, 24, 25, 26, 27, 28, 29, 30, 31, 32, 33, 34, 35, 36, 37, 38, 39, 40, 41, 42, 43, 44, 45] (by decide +kernel) (by decide +kernel)
set_option maxRecDepth 20000 in
theorem gX11_findCovers_X11_reachedBy : GoodIn wsX11_findCovers (wsV RX11 106 RX11 yX11_reachedBy wsX11_reachedBy) := goodIn_app (goodIn_of _ (by decide +kernel)) ggX11_findCovers_X11_reachedBy
set_option maxRecDepth 20000 in
theorem ggX11_findCovers_X11_has : GoodIn wsX11_findCovers wsX11_has := goodIn_r _ [23] (by decide +kernel) (by decide +kernel)
set_option maxRecDepth 20000 in
theorem gX11_findCovers_X11_has : GoodIn wsX11_findCovers (va_wsS RX11 102 yX11_has wsX11_has) := goodIn_app (goodIn_of _ (by decide +kernel)) ggX11_findCovers_X11_has
theorem dX11_findCovers_0 : decode cX11_findCovers 0 = .ok (.aload_n 0, 1) := by decide +kernel
theorem dX11_findCovers_1 : decode cX11_findCovers 1 = .ok (.aload_n 0, 1) := by decide +kernel
theorem dX11_findCovers_2 : decode cX11_findCovers 2 = .ok (.iload_n 1, 1) := by decide +kernel
theorem dX11_findCovers_3 : decode cX11_findCovers 3 = .ok (.bipush (-9), 2) := by decide +kernel
theorem dX11_findCovers_5 : decode cX11_findCovers 5 = .ok (.bipush (-9), 2) := by decide +kernel
theorem dX11_findCovers_7 : decode cX11_findCovers 7 = .ok (.iconst 0, 1) := by decide +kernel
theorem dX11_findCovers_8 : decode cX11_findCovers 8 = .ok (.invokevirtual 106, 3) := by decide +kernel
theorem dX11_findCovers_11 : decode cX11_findCovers 11 = .ok (.putfield 110, 3) := by decide +kernel
theorem dX11_findCovers_14 : decode cX11_findCovers 14 = .ok (.iconst 0, 1) := by decide +kernel
theorem dX11_findCovers_15 : decode cX11_findCovers 15 = .ok (.istore_n 2, 1) := by decide +kernel
theorem dX11_findCovers_16 : decode cX11_findCovers 16 = .ok (.iload_n 2, 1) := by decide +kernel
theorem dX11_findCovers_17 : decode cX11_findCovers 17 = .ok (.bipush 8, 2) := by decide +kernel
theorem dX11_findCovers_19 : decode cX11_findCovers 19 = .ok (.if_icmp .ge 16, 3) := by decide +kernel
theorem dX11_findCovers_22 : decode cX11_findCovers 22 = .ok (.aload_n 0, 1) := by decide +kernel
theorem dX11_findCovers_23 : decode cX11_findCovers 23 = .ok (.getfield 20, 3) := by decide +kernel
theorem dX11_findCovers_26 : decode cX11_findCovers 26 = .ok (.iload_n 2, 1) := by decide +kernel
theorem dX11_findCovers_27 : decode cX11_findCovers 27 = .ok (.iconst 0, 1) := by decide +kernel
theorem dX11_findCovers_28 : decode cX11_findCovers 28 = .ok (.iastore, 1) := by decide +kernel
theorem dX11_findCovers_29 : decode cX11_findCovers 29 = .ok (.iinc 2 1, 3) := by decide +kernel
theorem dX11_findCovers_32 : decode cX11_findCovers 32 = .ok (.goto (-16), 3) := by decide +kernel
theorem dX11_findCovers_35 : decode cX11_findCovers 35 = .ok (.iconst 0, 1) := by decide +kernel
theorem dX11_findCovers_36 : decode cX11_findCovers 36 = .ok (.istore_n 2, 1) := by decide +kernel
theorem dX11_findCovers_37 : decode cX11_findCovers 37 = .ok (.iload_n 2, 1) := by decide +kernel
theorem dX11_findCovers_38 : decode cX11_findCovers 38 = .ok (.bipush 8, 2) := by decide +kernel
theorem dX11_findCovers_40 : decode cX11_findCovers 40 = .ok (.if_icmp .ge 91, 3) := by decide +kernel
theorem dX11_findCovers_43 : decode cX11_findCovers 43 = .ok (.aload_n 0, 1) := by decide +kernel
theorem dX11_findCovers_44 : decode cX11_findCovers 44 = .ok (.getfield 110, 3) := by decide +kernel
theorem dX11_findCovers_47 : decode cX11_findCovers 47 = .ok (.iload_n 2, 1) := by decide +kernel
theorem dX11_findCovers_48 : decode cX11_findCovers 48 = .ok (.invokestatic 102, 3) := by decide +kernel
theorem dX11_findCovers_51 : decode cX11_findCovers 51 = .ok (.ifCond .eq 15, 3) := by decide +kernel
theorem dX11_findCovers_54 : decode cX11_findCovers 54 = .ok (.aload_n 0, 1) := by decide +kernel
theorem dX11_findCovers_55 : decode cX11_findCovers 55 = .ok (.iload_n 1, 1) := by decide +kernel
theorem dX11_findCovers_56 : decode cX11_findCovers 56 = .ok (.iload_n 2, 1) := by decide +kernel
theorem dX11_findCovers_57 : decode cX11_findCovers 57 = .ok (.bipush (-9), 2) := by decide +kernel
theorem dX11_findCovers_59 : decode cX11_findCovers 59 = .ok (.iconst 0, 1) := by decide +kernel
theorem dX11_findCovers_60 : decode cX11_findCovers 60 = .ok (.invokevirtual 106, 3) := by decide +kernel
theorem dX11_findCovers_63 : decode cX11_findCovers 63 = .ok (.goto 7, 3) := by decide +kernel
theorem dX11_findCovers_66 : decode cX11_findCovers 66 = .ok (.aload_n 0, 1) := by decide +kernel
theorem dX11_findCovers_67 : decode cX11_findCovers 67 = .ok (.getfield 110, 3) := by decide +kernel
theorem dX11_findCovers_70 : decode cX11_findCovers 70 = .ok (.istore_n 3, 1) := by decide +kernel
theorem dX11_findCovers_71 : decode cX11_findCovers 71 = .ok (.iconst 0, 1) := by decide +kernel
theorem dX11_findCovers_72 : decode cX11_findCovers 72 = .ok (.istore 4, 2) := by decide +kernel
theorem dX11_findCovers_74 : decode cX11_findCovers 74 = .ok (.iload 4, 2) := by decide +kernel
theorem dX11_findCovers_76 : decode cX11_findCovers 76 = .ok (.bipush 8, 2) := by decide +kernel
theorem dX11_findCovers_78 : decode cX11_findCovers 78 = .ok (.if_icmp .ge 47, 3) := by decide +kernel
theorem dX11_findCovers_81 : decode cX11_findCovers 81 = .ok (.aload_n 0, 1) := by decide +kernel
theorem dX11_findCovers_82 : decode cX11_findCovers 82 = .ok (.getfield 20, 3) := by decide +kernel
theorem dX11_findCovers_85 : decode cX11_findCovers 85 = .ok (.iload 4, 2) := by decide +kernel
theorem dX11_findCovers_87 : decode cX11_findCovers 87 = .ok (.dup2, 1) := by decide +kernel
theorem dX11_findCovers_88 : decode cX11_findCovers 88 = .ok (.iaload, 1) := by decide +kernel
theorem dX11_findCovers_89 : decode cX11_findCovers 89 = .ok (.aload_n 0, 1) := by decide +kernel
theorem dX11_findCovers_90 : decode cX11_findCovers 90 = .ok (.getfield 110, 3) := by decide +kernel
theorem dX11_findCovers_93 : decode cX11_findCovers 93 = .ok (.iload 4, 2) := by decide +kernel
theorem dX11_findCovers_95 : decode cX11_findCovers 95 = .ok (.invokestatic 102, 3) := by decide +kernel
theorem dX11_findCovers_98 : decode cX11_findCovers 98 = .ok (.ifCond .eq 18, 3) := by decide +kernel
theorem dX11_findCovers_101 : decode cX11_findCovers 101 = .ok (.iload_n 3, 1) := by decide +kernel
theorem dX11_findCovers_102 : decode cX11_findCovers 102 = .ok (.iload 4, 2) := by decide +kernel
theorem dX11_findCovers_104 : decode cX11_findCovers 104 = .ok (.invokestatic 102, 3) := by decide +kernel
theorem dX11_findCovers_107 : decode cX11_findCovers 107 = .ok (.ifCond .ne 9, 3) := by decide +kernel
theorem dX11_findCovers_110 : decode cX11_findCovers 110 = .ok (.iconst 1, 1) := by decide +kernel
theorem dX11_findCovers_111 : decode cX11_findCovers 111 = .ok (.iload_n 2, 1) := by decide +kernel
theorem dX11_findCovers_112 : decode cX11_findCovers 112 = .ok (.ishl, 1) := by decide +kernel
theorem dX11_findCovers_113 : decode cX11_findCovers 113 = .ok (.goto 4, 3) := by decide +kernel
theorem dX11_findCovers_116 : decode cX11_findCovers 116 = .ok (.iconst 0, 1) := by decide +kernel
theorem dX11_findCovers_117 : decode cX11_findCovers 117 = .ok (.ior, 1) := by decide +kernel
theorem dX11_findCovers_118 : decode cX11_findCovers 118 = .ok (.iastore, 1) := by decide +kernel
theorem dX11_findCovers_119 : decode cX11_findCovers 119 = .ok (.iinc 4 1, 3) := by decide +kernel
theorem dX11_findCovers_122 : decode cX11_findCovers 122 = .ok (.goto (-48), 3) := by decide +kernel
theorem dX11_findCovers_125 : decode cX11_findCovers 125 = .ok (.iinc 2 1, 3) := by decide +kernel
theorem dX11_findCovers_128 : decode cX11_findCovers 128 = .ok (.goto (-91), 3) := by decide +kernel
theorem dX11_findCovers_131 : decode cX11_findCovers 131 = .ok (.return_, 1) := by decide +kernel
set_option maxRecDepth 20000 in
theorem ggX11_depthOf_X11_has : GoodIn wsX11_depthOf wsX11_has := goodIn_r _ [6] (by decide +kernel) (by decide +kernel)
set_option maxRecDepth 20000 in
theorem gX11_depthOf_X11_has : GoodIn wsX11_depthOf (va_wsS RX11 102 yX11_has wsX11_has) := goodIn_app (goodIn_of _ (by decide +kernel)) ggX11_depthOf_X11_has
set_option maxRecDepth 20000 in
theorem ggX11_depthOf_X11_ones : GoodIn wsX11_depthOf wsX11_ones := goodIn_r _ [9] (by decide +kernel) (by decide +kernel)
set_option maxRecDepth 20000 in
theorem gX11_depthOf_X11_ones : GoodIn wsX11_depthOf (va_wsS RX11 113 yX11_ones wsX11_ones) := goodIn_app (goodIn_of _ (by decide +kernel)) ggX11_depthOf_X11_ones
theorem dX11_depthOf_0 : decode cX11_depthOf 0 = .ok (.aload_n 0, 1) := by decide +kernel
theorem dX11_depthOf_1 : decode cX11_depthOf 1 = .ok (.getfield 110, 3) := by decide +kernel
theorem dX11_depthOf_4 : decode cX11_depthOf 4 = .ok (.iload_n 1, 1) := by decide +kernel
theorem dX11_depthOf_5 : decode cX11_depthOf 5 = .ok (.invokestatic 102, 3) := by decide +kernel
theorem dX11_depthOf_8 : decode cX11_depthOf 8 = .ok (.ifCond .eq 17, 3) := by decide +kernel
theorem dX11_depthOf_11 : decode cX11_depthOf 11 = .ok (.aload_n 0, 1) := by decide +kernel
theorem dX11_depthOf_12 : decode cX11_depthOf 12 = .ok (.getfield 20, 3) := by decide +kernel
theorem dX11_depthOf_15 : decode cX11_depthOf 15 = .ok (.iload_n 1, 1) := by decide +kernel
theorem dX11_depthOf_16 : decode cX11_depthOf 16 = .ok (.iaload, 1) := by decide +kernel
theorem dX11_depthOf_17 : decode cX11_depthOf 17 = .ok (.invokestatic 113, 3) := by decide +kernel
theorem dX11_depthOf_20 : decode cX11_depthOf 20 = .ok (.iconst 1, 1) := by decide +kernel
theorem dX11_depthOf_21 : decode cX11_depthOf 21 = .ok (.isub, 1) := by decide +kernel
theorem dX11_depthOf_22 : decode cX11_depthOf 22 = .ok (.goto 5, 3) := by decide +kernel
theorem dX11_depthOf_25 : decode cX11_depthOf 25 = .ok (.bipush (-9), 2) := by decide +kernel
theorem dX11_depthOf_27 : decode cX11_depthOf 27 = .ok (.ireturn, 1) := by decide +kernel
set_option maxRecDepth 20000 in
theorem ggX11_lidOf_X11_has : GoodIn wsX11_lidOf wsX11_has := goodIn_r _ [6] (by decide +kernel) (by decide +kernel)
set_option maxRecDepth 20000 in
theorem gX11_lidOf_X11_has : GoodIn wsX11_lidOf (va_wsS RX11 102 yX11_has wsX11_has) := goodIn_app (goodIn_of _ (by decide +kernel)) ggX11_lidOf_X11_has
theorem dX11_lidOf_0 : decode cX11_lidOf 0 = .ok (.bipush (-9), 2) := by decide +kernel
theorem dX11_lidOf_2 : decode cX11_lidOf 2 = .ok (.istore_n 2, 1) := by decide +kernel
theorem dX11_lidOf_3 : decode cX11_lidOf 3 = .ok (.iconst 0, 1) := by decide +kernel
theorem dX11_lidOf_4 : decode cX11_lidOf 4 = .ok (.istore_n 3, 1) := by decide +kernel
theorem dX11_lidOf_5 : decode cX11_lidOf 5 = .ok (.iload_n 3, 1) := by decide +kernel
theorem dX11_lidOf_6 : decode cX11_lidOf 6 = .ok (.bipush 8, 2) := by decide +kernel
theorem dX11_lidOf_8 : decode cX11_lidOf 8 = .ok (.if_icmp .ge 85, 3) := by decide +kernel
theorem dX11_lidOf_11 : decode cX11_lidOf 11 = .ok (.iload_n 1, 1) := by decide +kernel
theorem dX11_lidOf_12 : decode cX11_lidOf 12 = .ok (.ifCond .le 42, 3) := by decide +kernel
theorem dX11_lidOf_15 : decode cX11_lidOf 15 = .ok (.iload_n 1, 1) := by decide +kernel
theorem dX11_lidOf_16 : decode cX11_lidOf 16 = .ok (.bipush 8, 2) := by decide +kernel
theorem dX11_lidOf_18 : decode cX11_lidOf 18 = .ok (.if_icmp .ge 36, 3) := by decide +kernel
theorem dX11_lidOf_21 : decode cX11_lidOf 21 = .ok (.aload_n 0, 1) := by decide +kernel
theorem dX11_lidOf_22 : decode cX11_lidOf 22 = .ok (.getfield 110, 3) := by decide +kernel
theorem dX11_lidOf_25 : decode cX11_lidOf 25 = .ok (.iload_n 1, 1) := by decide +kernel
theorem dX11_lidOf_26 : decode cX11_lidOf 26 = .ok (.invokestatic 102, 3) := by decide +kernel
theorem dX11_lidOf_29 : decode cX11_lidOf 29 = .ok (.ifCond .eq 25, 3) := by decide +kernel
theorem dX11_lidOf_32 : decode cX11_lidOf 32 = .ok (.iload_n 3, 1) := by decide +kernel
theorem dX11_lidOf_33 : decode cX11_lidOf 33 = .ok (.iload_n 1, 1) := by decide +kernel
theorem dX11_lidOf_34 : decode cX11_lidOf 34 = .ok (.if_icmp .eq 20, 3) := by decide +kernel
theorem dX11_lidOf_37 : decode cX11_lidOf 37 = .ok (.aload_n 0, 1) := by decide +kernel
theorem dX11_lidOf_38 : decode cX11_lidOf 38 = .ok (.getfield 20, 3) := by decide +kernel
theorem dX11_lidOf_41 : decode cX11_lidOf 41 = .ok (.iload_n 1, 1) := by decide +kernel
theorem dX11_lidOf_42 : decode cX11_lidOf 42 = .ok (.iaload, 1) := by decide +kernel
theorem dX11_lidOf_43 : decode cX11_lidOf 43 = .ok (.iload_n 3, 1) := by decide +kernel
theorem dX11_lidOf_44 : decode cX11_lidOf 44 = .ok (.invokestatic 102, 3) := by decide +kernel
theorem dX11_lidOf_47 : decode cX11_lidOf 47 = .ok (.ifCond .eq 7, 3) := by decide +kernel
theorem dX11_lidOf_50 : decode cX11_lidOf 50 = .ok (.iconst 1, 1) := by decide +kernel
theorem dX11_lidOf_51 : decode cX11_lidOf 51 = .ok (.goto 4, 3) := by decide +kernel
theorem dX11_lidOf_54 : decode cX11_lidOf 54 = .ok (.iconst 0, 1) := by decide +kernel
theorem dX11_lidOf_55 : decode cX11_lidOf 55 = .ok (.istore 4, 2) := by decide +kernel
theorem dX11_lidOf_57 : decode cX11_lidOf 57 = .ok (.iload 4, 2) := by decide +kernel
theorem dX11_lidOf_59 : decode cX11_lidOf 59 = .ok (.ifCond .eq 26, 3) := by decide +kernel
theorem dX11_lidOf_62 : decode cX11_lidOf 62 = .ok (.iload_n 2, 1) := by decide +kernel
theorem dX11_lidOf_63 : decode cX11_lidOf 63 = .ok (.bipush (-9), 2) := by decide +kernel
theorem dX11_lidOf_65 : decode cX11_lidOf 65 = .ok (.if_icmp .eq 16, 3) := by decide +kernel
theorem dX11_lidOf_68 : decode cX11_lidOf 68 = .ok (.aload_n 0, 1) := by decide +kernel
theorem dX11_lidOf_69 : decode cX11_lidOf 69 = .ok (.getfield 20, 3) := by decide +kernel
theorem dX11_lidOf_72 : decode cX11_lidOf 72 = .ok (.iload_n 3, 1) := by decide +kernel
theorem dX11_lidOf_73 : decode cX11_lidOf 73 = .ok (.iaload, 1) := by decide +kernel
theorem dX11_lidOf_74 : decode cX11_lidOf 74 = .ok (.iload_n 2, 1) := by decide +kernel
theorem dX11_lidOf_75 : decode cX11_lidOf 75 = .ok (.invokestatic 102, 3) := by decide +kernel
theorem dX11_lidOf_78 : decode cX11_lidOf 78 = .ok (.ifCond .eq 7, 3) := by decide +kernel
theorem dX11_lidOf_81 : decode cX11_lidOf 81 = .ok (.iload_n 3, 1) := by decide +kernel
theorem dX11_lidOf_82 : decode cX11_lidOf 82 = .ok (.goto 4, 3) := by decide +kernel
theorem dX11_lidOf_85 : decode cX11_lidOf 85 = .ok (.iload_n 2, 1) := by decide +kernel
theorem dX11_lidOf_86 : decode cX11_lidOf 86 = .ok (.istore_n 2, 1) := by decide +kernel
theorem dX11_lidOf_87 : decode cX11_lidOf 87 = .ok (.iinc 3 1, 3) := by decide +kernel
theorem dX11_lidOf_90 : decode cX11_lidOf 90 = .ok (.goto (-85), 3) := by decide +kernel
theorem dX11_lidOf_93 : decode cX11_lidOf 93 = .ok (.iload_n 2, 1) := by decide +kernel
theorem dX11_lidOf_94 : decode cX11_lidOf 94 = .ok (.ireturn, 1) := by decide +kernel
set_option maxRecDepth 20000 in
theorem ggX11_coveredBy_X11_has : GoodIn wsX11_coveredBy wsX11_has := goodIn_r _ [5] (by decide +kernel) (by decide +kernel)
set_option maxRecDepth 20000 in
theorem gX11_coveredBy_X11_has : GoodIn wsX11_coveredBy (va_wsS RX11 102 yX11_has wsX11_has) := goodIn_app (goodIn_of _ (by decide +kernel)) ggX11_coveredBy_X11_has
theorem dX11_coveredBy_0 : decode cX11_coveredBy 0 = .ok (.iconst 0, 1) := by decide +kernel
theorem dX11_coveredBy_1 : decode cX11_coveredBy 1 = .ok (.istore_n 2, 1) := by decide +kernel
theorem dX11_coveredBy_2 : decode cX11_coveredBy 2 = .ok (.iconst 0, 1) := by decide +kernel
theorem dX11_coveredBy_3 : decode cX11_coveredBy 3 = .ok (.istore_n 3, 1) := by decide +kernel
theorem dX11_coveredBy_4 : decode cX11_coveredBy 4 = .ok (.iload_n 3, 1) := by decide +kernel
theorem dX11_coveredBy_5 : decode cX11_coveredBy 5 = .ok (.bipush 8, 2) := by decide +kernel
theorem dX11_coveredBy_7 : decode cX11_coveredBy 7 = .ok (.if_icmp .ge 32, 3) := by decide +kernel
theorem dX11_coveredBy_10 : decode cX11_coveredBy 10 = .ok (.iload_n 2, 1) := by decide +kernel
theorem dX11_coveredBy_11 : decode cX11_coveredBy 11 = .ok (.aload_n 0, 1) := by decide +kernel
theorem dX11_coveredBy_12 : decode cX11_coveredBy 12 = .ok (.getfield 20, 3) := by decide +kernel
theorem dX11_coveredBy_15 : decode cX11_coveredBy 15 = .ok (.iload_n 3, 1) := by decide +kernel
theorem dX11_coveredBy_16 : decode cX11_coveredBy 16 = .ok (.iaload, 1) := by decide +kernel
theorem dX11_coveredBy_17 : decode cX11_coveredBy 17 = .ok (.iload_n 1, 1) := by decide +kernel
theorem dX11_coveredBy_18 : decode cX11_coveredBy 18 = .ok (.invokestatic 102, 3) := by decide +kernel
theorem dX11_coveredBy_21 : decode cX11_coveredBy 21 = .ok (.ifCond .eq 9, 3) := by decide +kernel
theorem dX11_coveredBy_24 : decode cX11_coveredBy 24 = .ok (.iconst 1, 1) := by decide +kernel
theorem dX11_coveredBy_25 : decode cX11_coveredBy 25 = .ok (.iload_n 3, 1) := by decide +kernel
theorem dX11_coveredBy_26 : decode cX11_coveredBy 26 = .ok (.ishl, 1) := by decide +kernel
theorem dX11_coveredBy_27 : decode cX11_coveredBy 27 = .ok (.goto 4, 3) := by decide +kernel
theorem dX11_coveredBy_30 : decode cX11_coveredBy 30 = .ok (.iconst 0, 1) := by decide +kernel
theorem dX11_coveredBy_31 : decode cX11_coveredBy 31 = .ok (.ior, 1) := by decide +kernel
theorem dX11_coveredBy_32 : decode cX11_coveredBy 32 = .ok (.istore_n 2, 1) := by decide +kernel
theorem dX11_coveredBy_33 : decode cX11_coveredBy 33 = .ok (.iinc 3 1, 3) := by decide +kernel
theorem dX11_coveredBy_36 : decode cX11_coveredBy 36 = .ok (.goto (-32), 3) := by decide +kernel
theorem dX11_coveredBy_39 : decode cX11_coveredBy 39 = .ok (.iload_n 2, 1) := by decide +kernel
theorem dX11_coveredBy_40 : decode cX11_coveredBy 40 = .ok (.ireturn, 1) := by decide +kernel
set_option maxRecDepth 20000 in
theorem ggX11_walk_X11_many : GoodIn wsX11_walk wsX11_many := goodIn_r _ [8, 9, 18, 19, 20, 21, 22, 23, 24, 25, 26, 27, 28, 29, 30, 31, 32, 33, 34, 35, 36, 37, 38, 39] (by decide +kernel) (by decide +kernel)
set_option maxRecDepth 20000 in
theorem gX11_walk_X11_many : GoodIn wsX11_walk (wsV RX11 66 RX11 yX11_many wsX11_many) := goodIn_app (goodIn_of _ (by decide +kernel)) ggX11_walk_X11_many
set_option maxRecDepth 20000 in
theorem ggX11_walk_X11_toOf : GoodIn wsX11_walk wsX11_toOf := goodIn_r _ [13, 9, 18, 19, 20, 21, 22, 23, 24, 25, 26, 27, 28, 29, 30, 31, 32, 33, 34, 35, 36, 37, 38, 39] (by decide +kernel) (by decide +kernel)
set_option maxRecDepth 20000 in
theorem gX11_walk_X11_toOf : GoodIn wsX11_walk (wsV RX11 99 RX11 yX11_toOf wsX11_toOf) := goodIn_app (goodIn_of _ (by decide +kernel)) ggX11_walk_X11_toOf
set_option maxRecDepth 20000 in
theorem ggX11_walk_X11_fromOf : GoodIn wsX11_walk wsX11_fromOf := goodIn_r _ [17, 9, 18, 19, 20, 21, 22, 23, 24, 25, 26, 27, 28, 29, 30, 31, 32, 33, 34, 35, 36, 37, 38, 39] (by decide +kernel) (by decide +kernel)
set_option maxRecDepth 20000 in
theorem gX11_walk_X11_fromOf : GoodIn wsX11_walk (wsV RX11 70 RX11 yX11_fromOf wsX11_fromOf) := goodIn_app (goodIn_of _ (by decide +kernel)) ggX11_walk_X11_fromOf
theorem dX11_walk_0 : decode cX11_walk 0 = .ok (.iconst 0, 1) := by decide +kernel
theorem dX11_walk_1 : decode cX11_walk 1 = .ok (.istore_n 2, 1) := by decide +kernel
theorem dX11_walk_2 : decode cX11_walk 2 = .ok (.iload_n 2, 1) := by decide +kernel
theorem dX11_walk_3 : decode cX11_walk 3 = .ok (.bipush 8, 2) := by decide +kernel
theorem dX11_walk_5 : decode cX11_walk 5 = .ok (.if_icmp .ge 24, 3) := by decide +kernel
theorem dX11_walk_8 : decode cX11_walk 8 = .ok (.aload_n 0, 1) := by decide +kernel
theorem dX11_walk_9 : decode cX11_walk 9 = .ok (.getfield 23, 3) := by decide +kernel
theorem dX11_walk_12 : decode cX11_walk 12 = .ok (.iload_n 2, 1) := by decide +kernel
theorem dX11_walk_13 : decode cX11_walk 13 = .ok (.bipush (-9), 2) := by decide +kernel
theorem dX11_walk_15 : decode cX11_walk 15 = .ok (.iastore, 1) := by decide +kernel
theorem dX11_walk_16 : decode cX11_walk 16 = .ok (.aload_n 0, 1) := by decide +kernel
theorem dX11_walk_17 : decode cX11_walk 17 = .ok (.getfield 29, 3) := by decide +kernel
theorem dX11_walk_20 : decode cX11_walk 20 = .ok (.iload_n 2, 1) := by decide +kernel
theorem dX11_walk_21 : decode cX11_walk 21 = .ok (.iconst 0, 1) := by decide +kernel
theorem dX11_walk_22 : decode cX11_walk 22 = .ok (.iastore, 1) := by decide +kernel
theorem dX11_walk_23 : decode cX11_walk 23 = .ok (.iinc 2 1, 3) := by decide +kernel
theorem dX11_walk_26 : decode cX11_walk 26 = .ok (.goto (-24), 3) := by decide +kernel
theorem dX11_walk_29 : decode cX11_walk 29 = .ok (.aload_n 0, 1) := by decide +kernel
theorem dX11_walk_30 : decode cX11_walk 30 = .ok (.getfield 23, 3) := by decide +kernel
theorem dX11_walk_33 : decode cX11_walk 33 = .ok (.iconst 0, 1) := by decide +kernel
theorem dX11_walk_34 : decode cX11_walk 34 = .ok (.iconst 0, 1) := by decide +kernel
theorem dX11_walk_35 : decode cX11_walk 35 = .ok (.iastore, 1) := by decide +kernel
theorem dX11_walk_36 : decode cX11_walk 36 = .ok (.aload_n 0, 1) := by decide +kernel
theorem dX11_walk_37 : decode cX11_walk 37 = .ok (.getfield 26, 3) := by decide +kernel
theorem dX11_walk_40 : decode cX11_walk 40 = .ok (.iconst 0, 1) := by decide +kernel
theorem dX11_walk_41 : decode cX11_walk 41 = .ok (.iconst 0, 1) := by decide +kernel
theorem dX11_walk_42 : decode cX11_walk 42 = .ok (.iastore, 1) := by decide +kernel
theorem dX11_walk_43 : decode cX11_walk 43 = .ok (.iconst 1, 1) := by decide +kernel
theorem dX11_walk_44 : decode cX11_walk 44 = .ok (.istore_n 2, 1) := by decide +kernel
theorem dX11_walk_45 : decode cX11_walk 45 = .ok (.iconst 1, 1) := by decide +kernel
theorem dX11_walk_46 : decode cX11_walk 46 = .ok (.istore_n 3, 1) := by decide +kernel
theorem dX11_walk_47 : decode cX11_walk 47 = .ok (.iload_n 3, 1) := by decide +kernel
theorem dX11_walk_48 : decode cX11_walk 48 = .ok (.ifCond .le 107, 3) := by decide +kernel
theorem dX11_walk_51 : decode cX11_walk 51 = .ok (.aload_n 0, 1) := by decide +kernel
theorem dX11_walk_52 : decode cX11_walk 52 = .ok (.getfield 26, 3) := by decide +kernel
theorem dX11_walk_55 : decode cX11_walk 55 = .ok (.iload_n 3, 1) := by decide +kernel
theorem dX11_walk_56 : decode cX11_walk 56 = .ok (.iconst 1, 1) := by decide +kernel
theorem dX11_walk_57 : decode cX11_walk 57 = .ok (.isub, 1) := by decide +kernel
theorem dX11_walk_58 : decode cX11_walk 58 = .ok (.iaload, 1) := by decide +kernel
theorem dX11_walk_59 : decode cX11_walk 59 = .ok (.istore 4, 2) := by decide +kernel
theorem dX11_walk_61 : decode cX11_walk 61 = .ok (.aload_n 0, 1) := by decide +kernel
theorem dX11_walk_62 : decode cX11_walk 62 = .ok (.getfield 29, 3) := by decide +kernel
theorem dX11_walk_65 : decode cX11_walk 65 = .ok (.iload 4, 2) := by decide +kernel
theorem dX11_walk_67 : decode cX11_walk 67 = .ok (.iaload, 1) := by decide +kernel
theorem dX11_walk_68 : decode cX11_walk 68 = .ok (.istore 5, 2) := by decide +kernel
theorem dX11_walk_70 : decode cX11_walk 70 = .ok (.iload 5, 2) := by decide +kernel
theorem dX11_walk_72 : decode cX11_walk 72 = .ok (.aload_n 0, 1) := by decide +kernel
theorem dX11_walk_73 : decode cX11_walk 73 = .ok (.iload_n 1, 1) := by decide +kernel
theorem dX11_walk_74 : decode cX11_walk 74 = .ok (.invokevirtual 66, 3) := by decide +kernel
theorem dX11_walk_77 : decode cX11_walk 77 = .ok (.if_icmp .ne 9, 3) := by decide +kernel
theorem dX11_walk_80 : decode cX11_walk 80 = .ok (.iinc 3 (-1), 3) := by decide +kernel
theorem dX11_walk_83 : decode cX11_walk 83 = .ok (.goto 69, 3) := by decide +kernel
theorem dX11_walk_86 : decode cX11_walk 86 = .ok (.aload_n 0, 1) := by decide +kernel
theorem dX11_walk_87 : decode cX11_walk 87 = .ok (.getfield 29, 3) := by decide +kernel
theorem dX11_walk_90 : decode cX11_walk 90 = .ok (.iload 4, 2) := by decide +kernel
theorem dX11_walk_92 : decode cX11_walk 92 = .ok (.dup2, 1) := by decide +kernel
theorem dX11_walk_93 : decode cX11_walk 93 = .ok (.iaload, 1) := by decide +kernel
theorem dX11_walk_94 : decode cX11_walk 94 = .ok (.iconst 1, 1) := by decide +kernel
theorem dX11_walk_95 : decode cX11_walk 95 = .ok (.iadd, 1) := by decide +kernel
theorem dX11_walk_96 : decode cX11_walk 96 = .ok (.iastore, 1) := by decide +kernel
theorem dX11_walk_97 : decode cX11_walk 97 = .ok (.aload_n 0, 1) := by decide +kernel
theorem dX11_walk_98 : decode cX11_walk 98 = .ok (.iload_n 1, 1) := by decide +kernel
theorem dX11_walk_99 : decode cX11_walk 99 = .ok (.iload 5, 2) := by decide +kernel
theorem dX11_walk_101 : decode cX11_walk 101 = .ok (.invokevirtual 99, 3) := by decide +kernel
theorem dX11_walk_104 : decode cX11_walk 104 = .ok (.istore 6, 2) := by decide +kernel
theorem dX11_walk_106 : decode cX11_walk 106 = .ok (.aload_n 0, 1) := by decide +kernel
theorem dX11_walk_107 : decode cX11_walk 107 = .ok (.iload_n 1, 1) := by decide +kernel
theorem dX11_walk_108 : decode cX11_walk 108 = .ok (.iload 5, 2) := by decide +kernel
theorem dX11_walk_110 : decode cX11_walk 110 = .ok (.invokevirtual 70, 3) := by decide +kernel
theorem dX11_walk_113 : decode cX11_walk 113 = .ok (.iload 4, 2) := by decide +kernel
theorem dX11_walk_115 : decode cX11_walk 115 = .ok (.if_icmp .ne 37, 3) := by decide +kernel
theorem dX11_walk_118 : decode cX11_walk 118 = .ok (.aload_n 0, 1) := by decide +kernel
theorem dX11_walk_119 : decode cX11_walk 119 = .ok (.getfield 23, 3) := by decide +kernel
theorem dX11_walk_122 : decode cX11_walk 122 = .ok (.iload 6, 2) := by decide +kernel
theorem dX11_walk_124 : decode cX11_walk 124 = .ok (.iaload, 1) := by decide +kernel
theorem dX11_walk_125 : decode cX11_walk 125 = .ok (.bipush (-9), 2) := by decide +kernel
theorem dX11_walk_127 : decode cX11_walk 127 = .ok (.if_icmp .ne 25, 3) := by decide +kernel
theorem dX11_walk_130 : decode cX11_walk 130 = .ok (.aload_n 0, 1) := by decide +kernel
theorem dX11_walk_131 : decode cX11_walk 131 = .ok (.getfield 23, 3) := by decide +kernel
theorem dX11_walk_134 : decode cX11_walk 134 = .ok (.iload 6, 2) := by decide +kernel
theorem dX11_walk_136 : decode cX11_walk 136 = .ok (.iload_n 2, 1) := by decide +kernel
theorem dX11_walk_137 : decode cX11_walk 137 = .ok (.iastore, 1) := by decide +kernel
theorem dX11_walk_138 : decode cX11_walk 138 = .ok (.iinc 2 1, 3) := by decide +kernel
theorem dX11_walk_141 : decode cX11_walk 141 = .ok (.aload_n 0, 1) := by decide +kernel
theorem dX11_walk_142 : decode cX11_walk 142 = .ok (.getfield 26, 3) := by decide +kernel
theorem dX11_walk_145 : decode cX11_walk 145 = .ok (.iload_n 3, 1) := by decide +kernel
theorem dX11_walk_146 : decode cX11_walk 146 = .ok (.iload 6, 2) := by decide +kernel
theorem dX11_walk_148 : decode cX11_walk 148 = .ok (.iastore, 1) := by decide +kernel
theorem dX11_walk_149 : decode cX11_walk 149 = .ok (.iinc 3 1, 3) := by decide +kernel
theorem dX11_walk_152 : decode cX11_walk 152 = .ok (.goto (-105), 3) := by decide +kernel
theorem dX11_walk_155 : decode cX11_walk 155 = .ok (.return_, 1) := by decide +kernel
set_option maxRecDepth 20000 in
theorem ggX11_halfOf_X11_many : GoodIn wsX11_halfOf wsX11_many := goodIn_r _ [6, 7, 19, 20, 21, 22, 23, 24, 25, 26, 27, 28, 29, 30, 31, 32, 33, 34, 35, 36, 37, 38, 39, 40] (by decide +kernel) (by decide +kernel)
set_option maxRecDepth 20000 in
theorem gX11_halfOf_X11_many : GoodIn wsX11_halfOf (wsV RX11 66 RX11 yX11_many wsX11_many) := goodIn_app (goodIn_of _ (by decide +kernel)) ggX11_halfOf_X11_many
set_option maxRecDepth 20000 in
theorem ggX11_halfOf_X11_fromOf : GoodIn wsX11_halfOf wsX11_fromOf := goodIn_r _ [11, 7, 19, 20, 21, 22, 23, 24, 25, 26, 27, 28, 29, 30, 31, 32, 33, 34, 35, 36, 37, 38, 39, 40] (by decide +kernel) (by decide +kernel)
set_option maxRecDepth 20000 in
theorem gX11_halfOf_X11_fromOf : GoodIn wsX11_halfOf (wsV RX11 70 RX11 yX11_fromOf wsX11_fromOf) := goodIn_app (goodIn_of _ (by decide +kernel)) ggX11_halfOf_X11_fromOf
set_option maxRecDepth 20000 in
theorem ggX11_halfOf_X11_toOf : GoodIn wsX11_halfOf wsX11_toOf := goodIn_r _ [15, 7, 19, 20, 21, 22, 23, 24, 25, 26, 27, 28, 29, 30, 31, 32, 33, 34, 35, 36, 37, 38, 39, 40] (by decide +kernel) (by decide +kernel)
set_option maxRecDepth 20000 in
theorem gX11_halfOf_X11_toOf : GoodIn wsX11_halfOf (wsV RX11 99 RX11 yX11_toOf wsX11_toOf) := goodIn_app (goodIn_of _ (by decide +kernel)) ggX11_halfOf_X11_toOf
set_option maxRecDepth 20000 in
theorem ggX11_halfOf_X11_has : GoodIn wsX11_halfOf wsX11_has := goodIn_r _ [18] (by decide +kernel) (by decide +kernel)
set_option maxRecDepth 20000 in
theorem gX11_halfOf_X11_has : GoodIn wsX11_halfOf (va_wsS RX11 102 yX11_has wsX11_has) := goodIn_app (goodIn_of _ (by decide +kernel)) ggX11_halfOf_X11_has
theorem dX11_halfOf_0 : decode cX11_halfOf 0 = .ok (.iload_n 2, 1) := by decide +kernel
theorem dX11_halfOf_1 : decode cX11_halfOf 1 = .ok (.ifCond .eq 14, 3) := by decide +kernel
theorem dX11_halfOf_4 : decode cX11_halfOf 4 = .ok (.aload_n 0, 1) := by decide +kernel
theorem dX11_halfOf_5 : decode cX11_halfOf 5 = .ok (.getfield 23, 3) := by decide +kernel
theorem dX11_halfOf_8 : decode cX11_halfOf 8 = .ok (.iload_n 2, 1) := by decide +kernel
theorem dX11_halfOf_9 : decode cX11_halfOf 9 = .ok (.iaload, 1) := by decide +kernel
theorem dX11_halfOf_10 : decode cX11_halfOf 10 = .ok (.bipush (-9), 2) := by decide +kernel
theorem dX11_halfOf_12 : decode cX11_halfOf 12 = .ok (.if_icmp .ne 6, 3) := by decide +kernel
theorem dX11_halfOf_15 : decode cX11_halfOf 15 = .ok (.bipush (-9), 2) := by decide +kernel
theorem dX11_halfOf_17 : decode cX11_halfOf 17 = .ok (.ireturn, 1) := by decide +kernel
theorem dX11_halfOf_18 : decode cX11_halfOf 18 = .ok (.iconst 1, 1) := by decide +kernel
theorem dX11_halfOf_19 : decode cX11_halfOf 19 = .ok (.iload_n 2, 1) := by decide +kernel
theorem dX11_halfOf_20 : decode cX11_halfOf 20 = .ok (.ishl, 1) := by decide +kernel
theorem dX11_halfOf_21 : decode cX11_halfOf 21 = .ok (.istore_n 3, 1) := by decide +kernel
theorem dX11_halfOf_22 : decode cX11_halfOf 22 = .ok (.bipush (-9), 2) := by decide +kernel
theorem dX11_halfOf_24 : decode cX11_halfOf 24 = .ok (.istore 4, 2) := by decide +kernel
theorem dX11_halfOf_26 : decode cX11_halfOf 26 = .ok (.iconst 0, 1) := by decide +kernel
theorem dX11_halfOf_27 : decode cX11_halfOf 27 = .ok (.istore 5, 2) := by decide +kernel
theorem dX11_halfOf_29 : decode cX11_halfOf 29 = .ok (.iload 5, 2) := by decide +kernel
theorem dX11_halfOf_31 : decode cX11_halfOf 31 = .ok (.bipush 8, 2) := by decide +kernel
theorem dX11_halfOf_33 : decode cX11_halfOf 33 = .ok (.if_icmp .ge 129, 3) := by decide +kernel
theorem dX11_halfOf_36 : decode cX11_halfOf 36 = .ok (.iconst 0, 1) := by decide +kernel
theorem dX11_halfOf_37 : decode cX11_halfOf 37 = .ok (.istore 6, 2) := by decide +kernel
theorem dX11_halfOf_39 : decode cX11_halfOf 39 = .ok (.iload 6, 2) := by decide +kernel
theorem dX11_halfOf_41 : decode cX11_halfOf 41 = .ok (.aload_n 0, 1) := by decide +kernel
theorem dX11_halfOf_42 : decode cX11_halfOf 42 = .ok (.iload_n 1, 1) := by decide +kernel
theorem dX11_halfOf_43 : decode cX11_halfOf 43 = .ok (.invokevirtual 66, 3) := by decide +kernel
theorem dX11_halfOf_46 : decode cX11_halfOf 46 = .ok (.if_icmp .ge 110, 3) := by decide +kernel
theorem dX11_halfOf_49 : decode cX11_halfOf 49 = .ok (.aload_n 0, 1) := by decide +kernel
theorem dX11_halfOf_50 : decode cX11_halfOf 50 = .ok (.iload_n 1, 1) := by decide +kernel
theorem dX11_halfOf_51 : decode cX11_halfOf 51 = .ok (.iload 6, 2) := by decide +kernel
theorem dX11_halfOf_53 : decode cX11_halfOf 53 = .ok (.invokevirtual 70, 3) := by decide +kernel
theorem dX11_halfOf_56 : decode cX11_halfOf 56 = .ok (.istore 7, 2) := by decide +kernel
theorem dX11_halfOf_58 : decode cX11_halfOf 58 = .ok (.iload_n 3, 1) := by decide +kernel
theorem dX11_halfOf_59 : decode cX11_halfOf 59 = .ok (.aload_n 0, 1) := by decide +kernel
theorem dX11_halfOf_60 : decode cX11_halfOf 60 = .ok (.iload_n 1, 1) := by decide +kernel
theorem dX11_halfOf_61 : decode cX11_halfOf 61 = .ok (.iload 6, 2) := by decide +kernel
theorem dX11_halfOf_63 : decode cX11_halfOf 63 = .ok (.invokevirtual 99, 3) := by decide +kernel
theorem dX11_halfOf_66 : decode cX11_halfOf 66 = .ok (.invokestatic 102, 3) := by decide +kernel
theorem dX11_halfOf_69 : decode cX11_halfOf 69 = .ok (.ifCond .eq 81, 3) := by decide +kernel
theorem dX11_halfOf_72 : decode cX11_halfOf 72 = .ok (.aload_n 0, 1) := by decide +kernel
theorem dX11_halfOf_73 : decode cX11_halfOf 73 = .ok (.getfield 23, 3) := by decide +kernel
theorem dX11_halfOf_76 : decode cX11_halfOf 76 = .ok (.iload 7, 2) := by decide +kernel
theorem dX11_halfOf_78 : decode cX11_halfOf 78 = .ok (.iaload, 1) := by decide +kernel
theorem dX11_halfOf_79 : decode cX11_halfOf 79 = .ok (.bipush (-9), 2) := by decide +kernel
theorem dX11_halfOf_81 : decode cX11_halfOf 81 = .ok (.if_icmp .eq 69, 3) := by decide +kernel
theorem dX11_halfOf_84 : decode cX11_halfOf 84 = .ok (.iload 7, 2) := by decide +kernel
theorem dX11_halfOf_86 : decode cX11_halfOf 86 = .ok (.iload_n 2, 1) := by decide +kernel
theorem dX11_halfOf_87 : decode cX11_halfOf 87 = .ok (.if_icmp .eq 32, 3) := by decide +kernel
theorem dX11_halfOf_90 : decode cX11_halfOf 90 = .ok (.iload 4, 2) := by decide +kernel
theorem dX11_halfOf_92 : decode cX11_halfOf 92 = .ok (.bipush (-9), 2) := by decide +kernel
theorem dX11_halfOf_94 : decode cX11_halfOf 94 = .ok (.if_icmp .eq 20, 3) := by decide +kernel
theorem dX11_halfOf_97 : decode cX11_halfOf 97 = .ok (.aload_n 0, 1) := by decide +kernel
theorem dX11_halfOf_98 : decode cX11_halfOf 98 = .ok (.getfield 23, 3) := by decide +kernel
theorem dX11_halfOf_101 : decode cX11_halfOf 101 = .ok (.iload 7, 2) := by decide +kernel
theorem dX11_halfOf_103 : decode cX11_halfOf 103 = .ok (.iaload, 1) := by decide +kernel
theorem dX11_halfOf_104 : decode cX11_halfOf 104 = .ok (.aload_n 0, 1) := by decide +kernel
theorem dX11_halfOf_105 : decode cX11_halfOf 105 = .ok (.getfield 23, 3) := by decide +kernel
theorem dX11_halfOf_108 : decode cX11_halfOf 108 = .ok (.iload 4, 2) := by decide +kernel
theorem dX11_halfOf_110 : decode cX11_halfOf 110 = .ok (.iaload, 1) := by decide +kernel
theorem dX11_halfOf_111 : decode cX11_halfOf 111 = .ok (.if_icmp .ge 8, 3) := by decide +kernel
theorem dX11_halfOf_114 : decode cX11_halfOf 114 = .ok (.iload 7, 2) := by decide +kernel
theorem dX11_halfOf_116 : decode cX11_halfOf 116 = .ok (.goto 5, 3) := by decide +kernel
theorem dX11_halfOf_119 : decode cX11_halfOf 119 = .ok (.iload 4, 2) := by decide +kernel
theorem dX11_halfOf_121 : decode cX11_halfOf 121 = .ok (.istore 4, 2) := by decide +kernel
theorem dX11_halfOf_123 : decode cX11_halfOf 123 = .ok (.iload_n 3, 1) := by decide +kernel
theorem dX11_halfOf_124 : decode cX11_halfOf 124 = .ok (.aload_n 0, 1) := by decide +kernel
theorem dX11_halfOf_125 : decode cX11_halfOf 125 = .ok (.getfield 23, 3) := by decide +kernel
theorem dX11_halfOf_128 : decode cX11_halfOf 128 = .ok (.iload 7, 2) := by decide +kernel
theorem dX11_halfOf_130 : decode cX11_halfOf 130 = .ok (.iaload, 1) := by decide +kernel
theorem dX11_halfOf_131 : decode cX11_halfOf 131 = .ok (.aload_n 0, 1) := by decide +kernel
theorem dX11_halfOf_132 : decode cX11_halfOf 132 = .ok (.getfield 23, 3) := by decide +kernel
theorem dX11_halfOf_135 : decode cX11_halfOf 135 = .ok (.iload_n 2, 1) := by decide +kernel
theorem dX11_halfOf_136 : decode cX11_halfOf 136 = .ok (.iaload, 1) := by decide +kernel
theorem dX11_halfOf_137 : decode cX11_halfOf 137 = .ok (.if_icmp .le 10, 3) := by decide +kernel
theorem dX11_halfOf_140 : decode cX11_halfOf 140 = .ok (.iconst 1, 1) := by decide +kernel
theorem dX11_halfOf_141 : decode cX11_halfOf 141 = .ok (.iload 7, 2) := by decide +kernel
theorem dX11_halfOf_143 : decode cX11_halfOf 143 = .ok (.ishl, 1) := by decide +kernel
theorem dX11_halfOf_144 : decode cX11_halfOf 144 = .ok (.goto 4, 3) := by decide +kernel
theorem dX11_halfOf_147 : decode cX11_halfOf 147 = .ok (.iconst 0, 1) := by decide +kernel
theorem dX11_halfOf_148 : decode cX11_halfOf 148 = .ok (.ior, 1) := by decide +kernel
theorem dX11_halfOf_149 : decode cX11_halfOf 149 = .ok (.istore_n 3, 1) := by decide +kernel
theorem dX11_halfOf_150 : decode cX11_halfOf 150 = .ok (.iinc 6 1, 3) := by decide +kernel
theorem dX11_halfOf_153 : decode cX11_halfOf 153 = .ok (.goto (-114), 3) := by decide +kernel
theorem dX11_halfOf_156 : decode cX11_halfOf 156 = .ok (.iinc 5 1, 3) := by decide +kernel
theorem dX11_halfOf_159 : decode cX11_halfOf 159 = .ok (.goto (-130), 3) := by decide +kernel
theorem dX11_halfOf_162 : decode cX11_halfOf 162 = .ok (.iload 4, 2) := by decide +kernel
theorem dX11_halfOf_164 : decode cX11_halfOf 164 = .ok (.ireturn, 1) := by decide +kernel
set_option maxRecDepth 20000 in
theorem ggX11_rimOf_X11_many : GoodIn wsX11_rimOf wsX11_many := goodIn_r _ [6, 7, 19, 20, 21, 22, 23, 24, 25, 26, 27, 28, 29, 30, 31, 32, 33, 34, 35, 36, 37, 38, 39, 40] (by decide +kernel) (by decide +kernel)
set_option maxRecDepth 20000 in
theorem gX11_rimOf_X11_many : GoodIn wsX11_rimOf (wsV RX11 66 RX11 yX11_many wsX11_many) := goodIn_app (goodIn_of _ (by decide +kernel)) ggX11_rimOf_X11_many
set_option maxRecDepth 20000 in
theorem ggX11_rimOf_X11_toOf : GoodIn wsX11_rimOf wsX11_toOf := goodIn_r _ [11, 7, 19, 20, 21, 22, 23, 24, 25, 26, 27, 28, 29, 30, 31, 32, 33, 34, 35, 36, 37, 38, 39, 40] (by decide +kernel) (by decide +kernel)
set_option maxRecDepth 20000 in
theorem gX11_rimOf_X11_toOf : GoodIn wsX11_rimOf (wsV RX11 99 RX11 yX11_toOf wsX11_toOf) := goodIn_app (goodIn_of _ (by decide +kernel)) ggX11_rimOf_X11_toOf
set_option maxRecDepth 20000 in
theorem ggX11_rimOf_X11_fromOf : GoodIn wsX11_rimOf wsX11_fromOf := goodIn_r _ [15, 7, 19, 20, 21, 22, 23, 24, 25, 26, 27, 28, 29, 30, 31, 32, 33, 34, 35, 36, 37, 38, 39, 40] (by decide +kernel) (by decide +kernel)
set_option maxRecDepth 20000 in
theorem gX11_rimOf_X11_fromOf : GoodIn wsX11_rimOf (wsV RX11 70 RX11 yX11_fromOf wsX11_fromOf) := goodIn_app (goodIn_of _ (by decide +kernel)) ggX11_rimOf_X11_fromOf
set_option maxRecDepth 20000 in
theorem ggX11_rimOf_X11_has : GoodIn wsX11_rimOf wsX11_has := goodIn_r _ [18] (by decide +kernel) (by decide +kernel)
set_option maxRecDepth 20000 in
theorem gX11_rimOf_X11_has : GoodIn wsX11_rimOf (va_wsS RX11 102 yX11_has wsX11_has) := goodIn_app (goodIn_of _ (by decide +kernel)) ggX11_rimOf_X11_has
theorem dX11_rimOf_0 : decode cX11_rimOf 0 = .ok (.iconst 0, 1) := by decide +kernel
theorem dX11_rimOf_1 : decode cX11_rimOf 1 = .ok (.istore_n 3, 1) := by decide +kernel
theorem dX11_rimOf_2 : decode cX11_rimOf 2 = .ok (.iconst 0, 1) := by decide +kernel
theorem dX11_rimOf_3 : decode cX11_rimOf 3 = .ok (.istore 4, 2) := by decide +kernel
theorem dX11_rimOf_5 : decode cX11_rimOf 5 = .ok (.iload 4, 2) := by decide +kernel
theorem dX11_rimOf_7 : decode cX11_rimOf 7 = .ok (.aload_n 0, 1) := by decide +kernel
theorem dX11_rimOf_8 : decode cX11_rimOf 8 = .ok (.iload_n 1, 1) := by decide +kernel
theorem dX11_rimOf_9 : decode cX11_rimOf 9 = .ok (.invokevirtual 66, 3) := by decide +kernel
theorem dX11_rimOf_12 : decode cX11_rimOf 12 = .ok (.if_icmp .ge 72, 3) := by decide +kernel
theorem dX11_rimOf_15 : decode cX11_rimOf 15 = .ok (.aload_n 0, 1) := by decide +kernel
theorem dX11_rimOf_16 : decode cX11_rimOf 16 = .ok (.iload_n 1, 1) := by decide +kernel
theorem dX11_rimOf_17 : decode cX11_rimOf 17 = .ok (.iload 4, 2) := by decide +kernel
theorem dX11_rimOf_19 : decode cX11_rimOf 19 = .ok (.invokevirtual 99, 3) := by decide +kernel
theorem dX11_rimOf_22 : decode cX11_rimOf 22 = .ok (.istore 5, 2) := by decide +kernel
theorem dX11_rimOf_24 : decode cX11_rimOf 24 = .ok (.aload_n 0, 1) := by decide +kernel
theorem dX11_rimOf_25 : decode cX11_rimOf 25 = .ok (.getfield 20, 3) := by decide +kernel
theorem dX11_rimOf_28 : decode cX11_rimOf 28 = .ok (.aload_n 0, 1) := by decide +kernel
theorem dX11_rimOf_29 : decode cX11_rimOf 29 = .ok (.iload_n 1, 1) := by decide +kernel
theorem dX11_rimOf_30 : decode cX11_rimOf 30 = .ok (.iload 4, 2) := by decide +kernel
theorem dX11_rimOf_32 : decode cX11_rimOf 32 = .ok (.invokevirtual 70, 3) := by decide +kernel
theorem dX11_rimOf_35 : decode cX11_rimOf 35 = .ok (.iaload, 1) := by decide +kernel
theorem dX11_rimOf_36 : decode cX11_rimOf 36 = .ok (.iload_n 2, 1) := by decide +kernel
theorem dX11_rimOf_37 : decode cX11_rimOf 37 = .ok (.invokestatic 102, 3) := by decide +kernel
theorem dX11_rimOf_40 : decode cX11_rimOf 40 = .ok (.istore 6, 2) := by decide +kernel
theorem dX11_rimOf_42 : decode cX11_rimOf 42 = .ok (.iload_n 3, 1) := by decide +kernel
theorem dX11_rimOf_43 : decode cX11_rimOf 43 = .ok (.iload 6, 2) := by decide +kernel
theorem dX11_rimOf_45 : decode cX11_rimOf 45 = .ok (.ifCond .eq 30, 3) := by decide +kernel
theorem dX11_rimOf_48 : decode cX11_rimOf 48 = .ok (.aload_n 0, 1) := by decide +kernel
theorem dX11_rimOf_49 : decode cX11_rimOf 49 = .ok (.getfield 20, 3) := by decide +kernel
theorem dX11_rimOf_52 : decode cX11_rimOf 52 = .ok (.iload 5, 2) := by decide +kernel
theorem dX11_rimOf_54 : decode cX11_rimOf 54 = .ok (.iaload, 1) := by decide +kernel
theorem dX11_rimOf_55 : decode cX11_rimOf 55 = .ok (.iload_n 2, 1) := by decide +kernel
theorem dX11_rimOf_56 : decode cX11_rimOf 56 = .ok (.invokestatic 102, 3) := by decide +kernel
theorem dX11_rimOf_59 : decode cX11_rimOf 59 = .ok (.ifCond .eq 9, 3) := by decide +kernel
theorem dX11_rimOf_62 : decode cX11_rimOf 62 = .ok (.iload 5, 2) := by decide +kernel
theorem dX11_rimOf_64 : decode cX11_rimOf 64 = .ok (.iload_n 2, 1) := by decide +kernel
theorem dX11_rimOf_65 : decode cX11_rimOf 65 = .ok (.if_icmp .ne 10, 3) := by decide +kernel
theorem dX11_rimOf_68 : decode cX11_rimOf 68 = .ok (.iconst 1, 1) := by decide +kernel
theorem dX11_rimOf_69 : decode cX11_rimOf 69 = .ok (.iload 5, 2) := by decide +kernel
theorem dX11_rimOf_71 : decode cX11_rimOf 71 = .ok (.ishl, 1) := by decide +kernel
theorem dX11_rimOf_72 : decode cX11_rimOf 72 = .ok (.goto 4, 3) := by decide +kernel
theorem dX11_rimOf_75 : decode cX11_rimOf 75 = .ok (.iconst 0, 1) := by decide +kernel
theorem dX11_rimOf_76 : decode cX11_rimOf 76 = .ok (.ior, 1) := by decide +kernel
theorem dX11_rimOf_77 : decode cX11_rimOf 77 = .ok (.istore_n 3, 1) := by decide +kernel
theorem dX11_rimOf_78 : decode cX11_rimOf 78 = .ok (.iinc 4 1, 3) := by decide +kernel
theorem dX11_rimOf_81 : decode cX11_rimOf 81 = .ok (.goto (-76), 3) := by decide +kernel
theorem dX11_rimOf_84 : decode cX11_rimOf 84 = .ok (.iload_n 3, 1) := by decide +kernel
theorem dX11_rimOf_85 : decode cX11_rimOf 85 = .ok (.ireturn, 1) := by decide +kernel
set_option maxRecDepth 20000 in
theorem ggX11_knot_X11_isKnot : GoodIn wsX11_knot wsX11_isKnot := goodIn_r _ [7, 8, 9, 10, 6, 11, 66, 67, 68, 69, 70, 71, 72, 73, 74, 75, 76, 77, 78, 79, 80, 81, 82, 83, 84, 85, 86, 87] (by decide +kernel) (by decide +kernel)
set_option maxRecDepth 20000 in
theorem gX11_knot_X11_isKnot : GoodIn wsX11_knot (wsV RX11 116 RX11 yX11_isKnot wsX11_isKnot) := goodIn_app (goodIn_of _ (by decide +kernel)) ggX11_knot_X11_isKnot
set_option maxRecDepth 20000 in
theorem ggX11_knot_X11_findCovers : GoodIn wsX11_knot wsX11_findCovers := goodIn_r _ [15, 1, 16, 17, 18, 19, 6, 20, 21, 22, 23, 24, 25, 26, 27, 28, 29, 30, 31, 32, 33, 34, 35, 36, 66, 67, 68, 69, 70, 71, 72, 73, 74, 75, 76, 77, 78, 79, 80, 81, 82, 83, 84, 85, 86, 87] (by decide +kernel) (by decide +kernel)
set_option maxRecDepth 20000 in
theorem gX11_knot_X11_findCovers : GoodIn wsX11_knot (wsV RX11 120 RX11 yX11_findCovers wsX11_findCovers) := goodIn_app (goodIn_of _ (by decide +kernel)) ggX11_knot_X11_findCovers
set_option maxRecDepth 20000 in
theorem ggX11_knot_X11_walk : GoodIn wsX11_knot wsX11_walk := goodIn_r _ [40, 2, 41, 42, 21, 22, 23, 6, 24, 25, 30, 31, 32, 33, 26, 27, 28, 29, 66, 67, 68, 69, 70, 71, 72, 73, 74, 75, 76, 77, 78, 79, 80, 81, 82, 83, 84, 85, 86, 87] (by decide +kernel) (by decide +kernel)
set_option maxRecDepth 20000 in
theorem gX11_knot_X11_walk : GoodIn wsX11_knot (wsV RX11 124 RX11 yX11_walk wsX11_walk) := goodIn_app (goodIn_of _ (by decide +kernel)) ggX11_knot_X11_walk
set_option maxRecDepth 20000 in
theorem ggX11_knot_X11_has : GoodIn wsX11_knot wsX11_has := goodIn_r _ [36] (by decide +kernel) (by decide +kernel)
set_option maxRecDepth 20000 in
theorem gX11_knot_X11_has : GoodIn wsX11_knot (va_wsS RX11 102 yX11_has wsX11_has) := goodIn_app (goodIn_of _ (by decide +kernel)) ggX11_knot_X11_has
set_option maxRecDepth 20000 in
theorem ggX11_knot_X11_lidOf : GoodIn wsX11_knot wsX11_lidOf := goodIn_r _ [46, 1, 16, 34, 35, 6, 36, 66, 67, 68, 69, 70, 71, 72, 73, 74, 75, 76, 77, 78, 79, 80, 81, 82, 83, 84, 85, 86, 87] (by decide +kernel) (by decide +kernel)
set_option maxRecDepth 20000 in
theorem gX11_knot_X11_lidOf : GoodIn wsX11_knot (wsV RX11 127 RX11 yX11_lidOf wsX11_lidOf) := goodIn_app (goodIn_of _ (by decide +kernel)) ggX11_knot_X11_lidOf
set_option maxRecDepth 20000 in
theorem ggX11_knot_X11_depthOf : GoodIn wsX11_knot wsX11_depthOf := goodIn_r _ [50, 1, 16, 34, 35, 6, 36, 51, 52, 53, 66, 67, 68, 69, 70, 71, 72, 73, 74, 75, 76, 77, 78, 79, 80, 81, 82, 83, 84, 85, 86, 87] (by decide +kernel) (by decide +kernel)
set_option maxRecDepth 20000 in
theorem gX11_knot_X11_depthOf : GoodIn wsX11_knot (wsV RX11 130 RX11 yX11_depthOf wsX11_depthOf) := goodIn_app (goodIn_of _ (by decide +kernel)) ggX11_knot_X11_depthOf
set_option maxRecDepth 20000 in
theorem ggX11_knot_X11_halfOf : GoodIn wsX11_knot wsX11_halfOf := goodIn_r _ [57, 2, 21, 22, 23, 6, 24, 25, 26, 27, 28, 29, 30, 31, 32, 33, 34, 35, 36, 66, 67, 68, 69, 70, 71, 72, 73, 74, 75, 76, 77, 78, 79, 80, 81, 82, 83, 84, 85, 86, 87] (by decide +kernel) (by decide +kernel)
set_option maxRecDepth 20000 in
theorem gX11_knot_X11_halfOf : GoodIn wsX11_knot (wsV RX11 133 RX11 yX11_halfOf wsX11_halfOf) := goodIn_app (goodIn_of _ (by decide +kernel)) ggX11_knot_X11_halfOf
set_option maxRecDepth 20000 in
theorem ggX11_knot_X11_coveredBy : GoodIn wsX11_knot wsX11_coveredBy := goodIn_r _ [61, 16, 34, 35, 6, 36, 66, 67, 68, 69, 70, 71, 72, 73, 74, 75, 76, 77, 78, 79, 80, 81, 82, 83, 84, 85, 86, 87] (by decide +kernel) (by decide +kernel)
set_option maxRecDepth 20000 in
theorem gX11_knot_X11_coveredBy : GoodIn wsX11_knot (wsV RX11 136 RX11 yX11_coveredBy wsX11_coveredBy) := goodIn_app (goodIn_of _ (by decide +kernel)) ggX11_knot_X11_coveredBy
set_option maxRecDepth 20000 in
theorem ggX11_knot_X11_rimOf : GoodIn wsX11_knot wsX11_rimOf := goodIn_r _ [65, 16, 21, 22, 23, 6, 24, 25, 30, 31, 32, 33, 26, 27, 28, 29, 34, 35, 36, 66, 67, 68, 69, 70, 71, 72, 73, 74, 75, 76, 77, 78, 79, 80, 81, 82, 83, 84, 85, 86, 87] (by decide +kernel) (by decide +kernel)
set_option maxRecDepth 20000 in
theorem gX11_knot_X11_rimOf : GoodIn wsX11_knot (wsV RX11 139 RX11 yX11_rimOf wsX11_rimOf) := goodIn_app (goodIn_of _ (by decide +kernel)) ggX11_knot_X11_rimOf
theorem dX11_knot_0 : decode cX11_knot 0 = .ok (.aload_n 0, 1) := by decide +kernel
theorem dX11_knot_1 : decode cX11_knot 1 = .ok (.iload_n 1, 1) := by decide +kernel
theorem dX11_knot_2 : decode cX11_knot 2 = .ok (.invokevirtual 116, 3) := by decide +kernel
theorem dX11_knot_5 : decode cX11_knot 5 = .ok (.ifCond .ne 5, 3) := by decide +kernel
theorem dX11_knot_8 : decode cX11_knot 8 = .ok (.iconst (-1), 1) := by decide +kernel
theorem dX11_knot_9 : decode cX11_knot 9 = .ok (.ireturn, 1) := by decide +kernel
theorem dX11_knot_10 : decode cX11_knot 10 = .ok (.aload_n 0, 1) := by decide +kernel
theorem dX11_knot_11 : decode cX11_knot 11 = .ok (.iconst 0, 1) := by decide +kernel
theorem dX11_knot_12 : decode cX11_knot 12 = .ok (.invokevirtual 120, 3) := by decide +kernel
theorem dX11_knot_15 : decode cX11_knot 15 = .ok (.aload_n 0, 1) := by decide +kernel
theorem dX11_knot_16 : decode cX11_knot 16 = .ok (.iconst 0, 1) := by decide +kernel
theorem dX11_knot_17 : decode cX11_knot 17 = .ok (.invokevirtual 124, 3) := by decide +kernel
theorem dX11_knot_20 : decode cX11_knot 20 = .ok (.iload_n 2, 1) := by decide +kernel
theorem dX11_knot_21 : decode cX11_knot 21 = .ok (.tableswitch 99 0 6 #[43, 60, 66, 72, 79, 86, 92], 43) := by decide +kernel
theorem dX11_knot_64 : decode cX11_knot 64 = .ok (.aload_n 0, 1) := by decide +kernel
theorem dX11_knot_65 : decode cX11_knot 65 = .ok (.getfield 110, 3) := by decide +kernel
theorem dX11_knot_68 : decode cX11_knot 68 = .ok (.iload_n 1, 1) := by decide +kernel
theorem dX11_knot_69 : decode cX11_knot 69 = .ok (.invokestatic 102, 3) := by decide +kernel
theorem dX11_knot_72 : decode cX11_knot 72 = .ok (.ifCond .eq 7, 3) := by decide +kernel
theorem dX11_knot_75 : decode cX11_knot 75 = .ok (.iconst 1, 1) := by decide +kernel
theorem dX11_knot_76 : decode cX11_knot 76 = .ok (.goto 4, 3) := by decide +kernel
theorem dX11_knot_79 : decode cX11_knot 79 = .ok (.iconst 0, 1) := by decide +kernel
theorem dX11_knot_80 : decode cX11_knot 80 = .ok (.ireturn, 1) := by decide +kernel
theorem dX11_knot_81 : decode cX11_knot 81 = .ok (.aload_n 0, 1) := by decide +kernel
theorem dX11_knot_82 : decode cX11_knot 82 = .ok (.iload_n 1, 1) := by decide +kernel
theorem dX11_knot_83 : decode cX11_knot 83 = .ok (.invokevirtual 127, 3) := by decide +kernel
theorem dX11_knot_86 : decode cX11_knot 86 = .ok (.ireturn, 1) := by decide +kernel
theorem dX11_knot_87 : decode cX11_knot 87 = .ok (.aload_n 0, 1) := by decide +kernel
theorem dX11_knot_88 : decode cX11_knot 88 = .ok (.iload_n 1, 1) := by decide +kernel
theorem dX11_knot_89 : decode cX11_knot 89 = .ok (.invokevirtual 130, 3) := by decide +kernel
theorem dX11_knot_92 : decode cX11_knot 92 = .ok (.ireturn, 1) := by decide +kernel
theorem dX11_knot_93 : decode cX11_knot 93 = .ok (.aload_n 0, 1) := by decide +kernel
theorem dX11_knot_94 : decode cX11_knot 94 = .ok (.getfield 23, 3) := by decide +kernel
theorem dX11_knot_97 : decode cX11_knot 97 = .ok (.iload_n 1, 1) := by decide +kernel
theorem dX11_knot_98 : decode cX11_knot 98 = .ok (.iaload, 1) := by decide +kernel
theorem dX11_knot_99 : decode cX11_knot 99 = .ok (.ireturn, 1) := by decide +kernel
theorem dX11_knot_100 : decode cX11_knot 100 = .ok (.aload_n 0, 1) := by decide +kernel
theorem dX11_knot_101 : decode cX11_knot 101 = .ok (.iconst 0, 1) := by decide +kernel
theorem dX11_knot_102 : decode cX11_knot 102 = .ok (.iload_n 1, 1) := by decide +kernel
theorem dX11_knot_103 : decode cX11_knot 103 = .ok (.invokevirtual 133, 3) := by decide +kernel
theorem dX11_knot_106 : decode cX11_knot 106 = .ok (.ireturn, 1) := by decide +kernel
theorem dX11_knot_107 : decode cX11_knot 107 = .ok (.aload_n 0, 1) := by decide +kernel
theorem dX11_knot_108 : decode cX11_knot 108 = .ok (.iload_n 1, 1) := by decide +kernel
theorem dX11_knot_109 : decode cX11_knot 109 = .ok (.invokevirtual 136, 3) := by decide +kernel
theorem dX11_knot_112 : decode cX11_knot 112 = .ok (.ireturn, 1) := by decide +kernel
theorem dX11_knot_113 : decode cX11_knot 113 = .ok (.aload_n 0, 1) := by decide +kernel
theorem dX11_knot_114 : decode cX11_knot 114 = .ok (.iconst 0, 1) := by decide +kernel
theorem dX11_knot_115 : decode cX11_knot 115 = .ok (.iload_n 1, 1) := by decide +kernel
theorem dX11_knot_116 : decode cX11_knot 116 = .ok (.invokevirtual 139, 3) := by decide +kernel
theorem dX11_knot_119 : decode cX11_knot 119 = .ok (.ireturn, 1) := by decide +kernel
theorem dX11_knot_120 : decode cX11_knot 120 = .ok (.bipush (-2), 2) := by decide +kernel
theorem dX11_knot_122 : decode cX11_knot 122 = .ok (.ireturn, 1) := by decide +kernel
theorem dX11_keepAct_0 : decode cX11_keepAct 0 = .ok (.iconst 0, 1) := by decide +kernel
theorem dX11_keepAct_1 : decode cX11_keepAct 1 = .ok (.istore_n 1, 1) := by decide +kernel
theorem dX11_keepAct_2 : decode cX11_keepAct 2 = .ok (.iload_n 1, 1) := by decide +kernel
theorem dX11_keepAct_3 : decode cX11_keepAct 3 = .ok (.bipush 50, 2) := by decide +kernel
theorem dX11_keepAct_5 : decode cX11_keepAct 5 = .ok (.if_icmp .ge 29, 3) := by decide +kernel
theorem dX11_keepAct_8 : decode cX11_keepAct 8 = .ok (.aload_n 0, 1) := by decide +kernel
theorem dX11_keepAct_9 : decode cX11_keepAct 9 = .ok (.getfield 32, 3) := by decide +kernel
theorem dX11_keepAct_12 : decode cX11_keepAct 12 = .ok (.bipush 50, 2) := by decide +kernel
theorem dX11_keepAct_14 : decode cX11_keepAct 14 = .ok (.aload_n 0, 1) := by decide +kernel
theorem dX11_keepAct_15 : decode cX11_keepAct 15 = .ok (.getfield 142, 3) := by decide +kernel
theorem dX11_keepAct_18 : decode cX11_keepAct 18 = .ok (.imul, 1) := by decide +kernel
theorem dX11_keepAct_19 : decode cX11_keepAct 19 = .ok (.iload_n 1, 1) := by decide +kernel
theorem dX11_keepAct_20 : decode cX11_keepAct 20 = .ok (.iadd, 1) := by decide +kernel
theorem dX11_keepAct_21 : decode cX11_keepAct 21 = .ok (.aload_n 0, 1) := by decide +kernel
theorem dX11_keepAct_22 : decode cX11_keepAct 22 = .ok (.getfield 13, 3) := by decide +kernel
theorem dX11_keepAct_25 : decode cX11_keepAct 25 = .ok (.iload_n 1, 1) := by decide +kernel
theorem dX11_keepAct_26 : decode cX11_keepAct 26 = .ok (.iaload, 1) := by decide +kernel
theorem dX11_keepAct_27 : decode cX11_keepAct 27 = .ok (.iastore, 1) := by decide +kernel
theorem dX11_keepAct_28 : decode cX11_keepAct 28 = .ok (.iinc 1 1, 3) := by decide +kernel
theorem dX11_keepAct_31 : decode cX11_keepAct 31 = .ok (.goto (-29), 3) := by decide +kernel
theorem dX11_keepAct_34 : decode cX11_keepAct 34 = .ok (.aload_n 0, 1) := by decide +kernel
theorem dX11_keepAct_35 : decode cX11_keepAct 35 = .ok (.aload_n 0, 1) := by decide +kernel
theorem dX11_keepAct_36 : decode cX11_keepAct 36 = .ok (.getfield 142, 3) := by decide +kernel
theorem dX11_keepAct_39 : decode cX11_keepAct 39 = .ok (.iconst 1, 1) := by decide +kernel
theorem dX11_keepAct_40 : decode cX11_keepAct 40 = .ok (.iadd, 1) := by decide +kernel
theorem dX11_keepAct_41 : decode cX11_keepAct 41 = .ok (.bipush 14, 2) := by decide +kernel
theorem dX11_keepAct_43 : decode cX11_keepAct 43 = .ok (.irem, 1) := by decide +kernel
theorem dX11_keepAct_44 : decode cX11_keepAct 44 = .ok (.putfield 142, 3) := by decide +kernel
theorem dX11_keepAct_47 : decode cX11_keepAct 47 = .ok (.aload_n 0, 1) := by decide +kernel
theorem dX11_keepAct_48 : decode cX11_keepAct 48 = .ok (.aload_n 0, 1) := by decide +kernel
theorem dX11_keepAct_49 : decode cX11_keepAct 49 = .ok (.getfield 96, 3) := by decide +kernel
theorem dX11_keepAct_52 : decode cX11_keepAct 52 = .ok (.bipush 14, 2) := by decide +kernel
theorem dX11_keepAct_54 : decode cX11_keepAct 54 = .ok (.if_icmp .ge 12, 3) := by decide +kernel
theorem dX11_keepAct_57 : decode cX11_keepAct 57 = .ok (.aload_n 0, 1) := by decide +kernel
theorem dX11_keepAct_58 : decode cX11_keepAct 58 = .ok (.getfield 96, 3) := by decide +kernel
theorem dX11_keepAct_61 : decode cX11_keepAct 61 = .ok (.iconst 1, 1) := by decide +kernel
theorem dX11_keepAct_62 : decode cX11_keepAct 62 = .ok (.iadd, 1) := by decide +kernel
theorem dX11_keepAct_63 : decode cX11_keepAct 63 = .ok (.goto 5, 3) := by decide +kernel
theorem dX11_keepAct_66 : decode cX11_keepAct 66 = .ok (.bipush 14, 2) := by decide +kernel
theorem dX11_keepAct_68 : decode cX11_keepAct 68 = .ok (.putfield 96, 3) := by decide +kernel
theorem dX11_keepAct_71 : decode cX11_keepAct 71 = .ok (.return_, 1) := by decide +kernel
set_option maxRecDepth 20000 in
theorem ggX11_insert_X11_isKnot : GoodIn wsX11_insert wsX11_isKnot := goodIn_r _ [6, 7, 8, 9, 5, 10, 30, 31, 32, 33, 34, 35, 36, 37, 38, 39, 40, 41, 42, 43, 44, 45, 46, 47, 48, 49, 50, 51] (by decide +kernel) (by decide +kernel)
set_option maxRecDepth 20000 in
theorem gX11_insert_X11_isKnot : GoodIn wsX11_insert (wsV RX11 116 RX11 yX11_isKnot wsX11_isKnot) := goodIn_app (goodIn_of _ (by decide +kernel)) ggX11_insert_X11_isKnot
set_option maxRecDepth 20000 in
theorem ggX11_insert_X11_find : GoodIn wsX11_insert wsX11_find := goodIn_r _ [14, 1, 15, 16, 17, 5, 18, 30, 31, 32, 33, 34, 35, 36, 37, 38, 39, 40, 41, 42, 43, 44, 45, 46, 47, 48, 49, 50, 51] (by decide +kernel) (by decide +kernel)
set_option maxRecDepth 20000 in
theorem gX11_insert_X11_find : GoodIn wsX11_insert (wsV RX11 84 RX11 yX11_find wsX11_find) := goodIn_app (goodIn_of _ (by decide +kernel)) ggX11_insert_X11_find
set_option maxRecDepth 20000 in
theorem ggX11_insert_X11_many : GoodIn wsX11_insert wsX11_many := goodIn_r _ [18, 1, 30, 31, 32, 33, 34, 35, 36, 37, 38, 39, 40, 41, 42, 43, 44, 45, 46, 47, 48, 49, 50, 51] (by decide +kernel) (by decide +kernel)
set_option maxRecDepth 20000 in
theorem gX11_insert_X11_many : GoodIn wsX11_insert (wsV RX11 66 RX11 yX11_many wsX11_many) := goodIn_app (goodIn_of _ (by decide +kernel)) ggX11_insert_X11_many
set_option maxRecDepth 20000 in
theorem ggX11_insert_X11_keepAct : GoodIn wsX11_insert wsX11_keepAct := goodIn_r _ [22, 23, 24, 1, 25, 30, 31, 32, 33, 34, 35, 36, 37, 38, 39, 40, 41, 42, 43, 44, 45, 46, 47, 48, 49, 50, 51] (by decide +kernel) (by decide +kernel)
set_option maxRecDepth 20000 in
theorem gX11_insert_X11_keepAct : GoodIn wsX11_insert (wsV RX11 145 RX11 yX11_keepAct wsX11_keepAct) := goodIn_app (goodIn_of _ (by decide +kernel)) ggX11_insert_X11_keepAct
set_option maxRecDepth 20000 in
theorem ggX11_insert_X11_insertOn : GoodIn wsX11_insert wsX11_insertOn := goodIn_r _ [29, 1, 30, 31, 32, 33, 34, 35, 36, 37, 38, 39, 40, 41, 42, 43, 44, 45, 46, 47, 48, 49, 50, 51] (by decide +kernel) (by decide +kernel)
set_option maxRecDepth 20000 in
theorem gX11_insert_X11_insertOn : GoodIn wsX11_insert (wsV RX11 88 RX11 yX11_insertOn wsX11_insertOn) := goodIn_app (goodIn_of _ (by decide +kernel)) ggX11_insert_X11_insertOn
theorem dX11_insert_0 : decode cX11_insert 0 = .ok (.aload_n 0, 1) := by decide +kernel
theorem dX11_insert_1 : decode cX11_insert 1 = .ok (.iload_n 1, 1) := by decide +kernel
theorem dX11_insert_2 : decode cX11_insert 2 = .ok (.invokevirtual 116, 3) := by decide +kernel
theorem dX11_insert_5 : decode cX11_insert 5 = .ok (.ifCond .eq 11, 3) := by decide +kernel
theorem dX11_insert_8 : decode cX11_insert 8 = .ok (.aload_n 0, 1) := by decide +kernel
theorem dX11_insert_9 : decode cX11_insert 9 = .ok (.iload_n 2, 1) := by decide +kernel
theorem dX11_insert_10 : decode cX11_insert 10 = .ok (.invokevirtual 116, 3) := by decide +kernel
theorem dX11_insert_13 : decode cX11_insert 13 = .ok (.ifCond .ne 5, 3) := by decide +kernel
theorem dX11_insert_16 : decode cX11_insert 16 = .ok (.iconst (-1), 1) := by decide +kernel
theorem dX11_insert_17 : decode cX11_insert 17 = .ok (.ireturn, 1) := by decide +kernel
theorem dX11_insert_18 : decode cX11_insert 18 = .ok (.iload_n 1, 1) := by decide +kernel
theorem dX11_insert_19 : decode cX11_insert 19 = .ok (.iload_n 2, 1) := by decide +kernel
theorem dX11_insert_20 : decode cX11_insert 20 = .ok (.if_icmp .ne 6, 3) := by decide +kernel
theorem dX11_insert_23 : decode cX11_insert 23 = .ok (.bipush (-2), 2) := by decide +kernel
theorem dX11_insert_25 : decode cX11_insert 25 = .ok (.ireturn, 1) := by decide +kernel
theorem dX11_insert_26 : decode cX11_insert 26 = .ok (.aload_n 0, 1) := by decide +kernel
theorem dX11_insert_27 : decode cX11_insert 27 = .ok (.iconst 0, 1) := by decide +kernel
theorem dX11_insert_28 : decode cX11_insert 28 = .ok (.iload_n 1, 1) := by decide +kernel
theorem dX11_insert_29 : decode cX11_insert 29 = .ok (.iload_n 2, 1) := by decide +kernel
theorem dX11_insert_30 : decode cX11_insert 30 = .ok (.invokevirtual 84, 3) := by decide +kernel
theorem dX11_insert_33 : decode cX11_insert 33 = .ok (.bipush (-9), 2) := by decide +kernel
theorem dX11_insert_35 : decode cX11_insert 35 = .ok (.if_icmp .eq 6, 3) := by decide +kernel
theorem dX11_insert_38 : decode cX11_insert 38 = .ok (.bipush (-3), 2) := by decide +kernel
theorem dX11_insert_40 : decode cX11_insert 40 = .ok (.ireturn, 1) := by decide +kernel
theorem dX11_insert_41 : decode cX11_insert 41 = .ok (.aload_n 0, 1) := by decide +kernel
theorem dX11_insert_42 : decode cX11_insert 42 = .ok (.iconst 0, 1) := by decide +kernel
theorem dX11_insert_43 : decode cX11_insert 43 = .ok (.invokevirtual 66, 3) := by decide +kernel
theorem dX11_insert_46 : decode cX11_insert 46 = .ok (.bipush 24, 2) := by decide +kernel
theorem dX11_insert_48 : decode cX11_insert 48 = .ok (.if_icmp .ne 6, 3) := by decide +kernel
theorem dX11_insert_51 : decode cX11_insert 51 = .ok (.bipush (-4), 2) := by decide +kernel
theorem dX11_insert_53 : decode cX11_insert 53 = .ok (.ireturn, 1) := by decide +kernel
theorem dX11_insert_54 : decode cX11_insert 54 = .ok (.aload_n 0, 1) := by decide +kernel
theorem dX11_insert_55 : decode cX11_insert 55 = .ok (.invokevirtual 145, 3) := by decide +kernel
theorem dX11_insert_58 : decode cX11_insert 58 = .ok (.aload_n 0, 1) := by decide +kernel
theorem dX11_insert_59 : decode cX11_insert 59 = .ok (.iconst 0, 1) := by decide +kernel
theorem dX11_insert_60 : decode cX11_insert 60 = .ok (.iload_n 1, 1) := by decide +kernel
theorem dX11_insert_61 : decode cX11_insert 61 = .ok (.iload_n 2, 1) := by decide +kernel
theorem dX11_insert_62 : decode cX11_insert 62 = .ok (.invokevirtual 88, 3) := by decide +kernel
theorem dX11_insert_65 : decode cX11_insert 65 = .ok (.aload_n 0, 1) := by decide +kernel
theorem dX11_insert_66 : decode cX11_insert 66 = .ok (.getfield 13, 3) := by decide +kernel
theorem dX11_insert_69 : decode cX11_insert 69 = .ok (.iconst 1, 1) := by decide +kernel
theorem dX11_insert_70 : decode cX11_insert 70 = .ok (.iaload, 1) := by decide +kernel
theorem dX11_insert_71 : decode cX11_insert 71 = .ok (.iconst 1, 1) := by decide +kernel
theorem dX11_insert_72 : decode cX11_insert 72 = .ok (.isub, 1) := by decide +kernel
theorem dX11_insert_73 : decode cX11_insert 73 = .ok (.ireturn, 1) := by decide +kernel
set_option maxRecDepth 20000 in
theorem ggX11_delete_X11_isKnot : GoodIn wsX11_delete wsX11_isKnot := goodIn_r _ [6, 7, 8, 9, 5, 10, 30, 31, 32, 33, 34, 35, 36, 37, 38, 39, 40, 41, 42, 43, 44, 45, 46, 47, 48, 49, 50, 51] (by decide +kernel) (by decide +kernel)
set_option maxRecDepth 20000 in
theorem gX11_delete_X11_isKnot : GoodIn wsX11_delete (wsV RX11 116 RX11 yX11_isKnot wsX11_isKnot) := goodIn_app (goodIn_of _ (by decide +kernel)) ggX11_delete_X11_isKnot
set_option maxRecDepth 20000 in
theorem ggX11_delete_X11_find : GoodIn wsX11_delete wsX11_find := goodIn_r _ [14, 1, 15, 16, 17, 5, 18, 30, 31, 32, 33, 34, 35, 36, 37, 38, 39, 40, 41, 42, 43, 44, 45, 46, 47, 48, 49, 50, 51] (by decide +kernel) (by decide +kernel)
set_option maxRecDepth 20000 in
theorem gX11_delete_X11_find : GoodIn wsX11_delete (wsV RX11 84 RX11 yX11_find wsX11_find) := goodIn_app (goodIn_of _ (by decide +kernel)) ggX11_delete_X11_find
set_option maxRecDepth 20000 in
theorem ggX11_delete_X11_keepAct : GoodIn wsX11_delete wsX11_keepAct := goodIn_r _ [22, 23, 24, 1, 25, 30, 31, 32, 33, 34, 35, 36, 37, 38, 39, 40, 41, 42, 43, 44, 45, 46, 47, 48, 49, 50, 51] (by decide +kernel) (by decide +kernel)
set_option maxRecDepth 20000 in
theorem gX11_delete_X11_keepAct : GoodIn wsX11_delete (wsV RX11 145 RX11 yX11_keepAct wsX11_keepAct) := goodIn_app (goodIn_of _ (by decide +kernel)) ggX11_delete_X11_keepAct
set_option maxRecDepth 20000 in
theorem ggX11_delete_X11_deleteOn : GoodIn wsX11_delete wsX11_deleteOn := goodIn_r _ [29, 1, 30, 31, 32, 33, 34, 35, 36, 37, 38, 39, 40, 41, 42, 43, 44, 45, 46, 47, 48, 49, 50, 51] (by decide +kernel) (by decide +kernel)
set_option maxRecDepth 20000 in
theorem gX11_delete_X11_deleteOn : GoodIn wsX11_delete (wsV RX11 148 RX11 yX11_deleteOn wsX11_deleteOn) := goodIn_app (goodIn_of _ (by decide +kernel)) ggX11_delete_X11_deleteOn
theorem dX11_delete_0 : decode cX11_delete 0 = .ok (.aload_n 0, 1) := by decide +kernel
theorem dX11_delete_1 : decode cX11_delete 1 = .ok (.iload_n 1, 1) := by decide +kernel
theorem dX11_delete_2 : decode cX11_delete 2 = .ok (.invokevirtual 116, 3) := by decide +kernel
theorem dX11_delete_5 : decode cX11_delete 5 = .ok (.ifCond .eq 11, 3) := by decide +kernel
theorem dX11_delete_8 : decode cX11_delete 8 = .ok (.aload_n 0, 1) := by decide +kernel
theorem dX11_delete_9 : decode cX11_delete 9 = .ok (.iload_n 2, 1) := by decide +kernel
theorem dX11_delete_10 : decode cX11_delete 10 = .ok (.invokevirtual 116, 3) := by decide +kernel
theorem dX11_delete_13 : decode cX11_delete 13 = .ok (.ifCond .ne 5, 3) := by decide +kernel
theorem dX11_delete_16 : decode cX11_delete 16 = .ok (.iconst (-1), 1) := by decide +kernel
theorem dX11_delete_17 : decode cX11_delete 17 = .ok (.ireturn, 1) := by decide +kernel
theorem dX11_delete_18 : decode cX11_delete 18 = .ok (.aload_n 0, 1) := by decide +kernel
theorem dX11_delete_19 : decode cX11_delete 19 = .ok (.iconst 0, 1) := by decide +kernel
theorem dX11_delete_20 : decode cX11_delete 20 = .ok (.iload_n 1, 1) := by decide +kernel
theorem dX11_delete_21 : decode cX11_delete 21 = .ok (.iload_n 2, 1) := by decide +kernel
theorem dX11_delete_22 : decode cX11_delete 22 = .ok (.invokevirtual 84, 3) := by decide +kernel
theorem dX11_delete_25 : decode cX11_delete 25 = .ok (.istore_n 3, 1) := by decide +kernel
theorem dX11_delete_26 : decode cX11_delete 26 = .ok (.iload_n 3, 1) := by decide +kernel
theorem dX11_delete_27 : decode cX11_delete 27 = .ok (.bipush (-9), 2) := by decide +kernel
theorem dX11_delete_29 : decode cX11_delete 29 = .ok (.if_icmp .ne 6, 3) := by decide +kernel
theorem dX11_delete_32 : decode cX11_delete 32 = .ok (.bipush (-3), 2) := by decide +kernel
theorem dX11_delete_34 : decode cX11_delete 34 = .ok (.ireturn, 1) := by decide +kernel
theorem dX11_delete_35 : decode cX11_delete 35 = .ok (.aload_n 0, 1) := by decide +kernel
theorem dX11_delete_36 : decode cX11_delete 36 = .ok (.invokevirtual 145, 3) := by decide +kernel
theorem dX11_delete_39 : decode cX11_delete 39 = .ok (.aload_n 0, 1) := by decide +kernel
theorem dX11_delete_40 : decode cX11_delete 40 = .ok (.getfield 13, 3) := by decide +kernel
theorem dX11_delete_43 : decode cX11_delete 43 = .ok (.bipush 26, 2) := by decide +kernel
theorem dX11_delete_45 : decode cX11_delete 45 = .ok (.iload_n 3, 1) := by decide +kernel
theorem dX11_delete_46 : decode cX11_delete 46 = .ok (.iadd, 1) := by decide +kernel
theorem dX11_delete_47 : decode cX11_delete 47 = .ok (.iaload, 1) := by decide +kernel
theorem dX11_delete_48 : decode cX11_delete 48 = .ok (.istore 4, 2) := by decide +kernel
theorem dX11_delete_50 : decode cX11_delete 50 = .ok (.aload_n 0, 1) := by decide +kernel
theorem dX11_delete_51 : decode cX11_delete 51 = .ok (.iconst 0, 1) := by decide +kernel
theorem dX11_delete_52 : decode cX11_delete 52 = .ok (.iload_n 3, 1) := by decide +kernel
theorem dX11_delete_53 : decode cX11_delete 53 = .ok (.invokevirtual 148, 3) := by decide +kernel
theorem dX11_delete_56 : decode cX11_delete 56 = .ok (.iload 4, 2) := by decide +kernel
theorem dX11_delete_58 : decode cX11_delete 58 = .ok (.ireturn, 1) := by decide +kernel
theorem dX11_undo_0 : decode cX11_undo 0 = .ok (.aload_n 0, 1) := by decide +kernel
theorem dX11_undo_1 : decode cX11_undo 1 = .ok (.getfield 96, 3) := by decide +kernel
theorem dX11_undo_4 : decode cX11_undo 4 = .ok (.ifCond .ne 6, 3) := by decide +kernel
theorem dX11_undo_7 : decode cX11_undo 7 = .ok (.bipush (-3), 2) := by decide +kernel
theorem dX11_undo_9 : decode cX11_undo 9 = .ok (.ireturn, 1) := by decide +kernel
theorem dX11_undo_10 : decode cX11_undo 10 = .ok (.aload_n 0, 1) := by decide +kernel
theorem dX11_undo_11 : decode cX11_undo 11 = .ok (.dup, 1) := by decide +kernel
theorem dX11_undo_12 : decode cX11_undo 12 = .ok (.getfield 96, 3) := by decide +kernel
theorem dX11_undo_15 : decode cX11_undo 15 = .ok (.iconst 1, 1) := by decide +kernel
theorem dX11_undo_16 : decode cX11_undo 16 = .ok (.isub, 1) := by decide +kernel
theorem dX11_undo_17 : decode cX11_undo 17 = .ok (.putfield 96, 3) := by decide +kernel
theorem dX11_undo_20 : decode cX11_undo 20 = .ok (.aload_n 0, 1) := by decide +kernel
theorem dX11_undo_21 : decode cX11_undo 21 = .ok (.aload_n 0, 1) := by decide +kernel
theorem dX11_undo_22 : decode cX11_undo 22 = .ok (.getfield 142, 3) := by decide +kernel
theorem dX11_undo_25 : decode cX11_undo 25 = .ok (.bipush 13, 2) := by decide +kernel
theorem dX11_undo_27 : decode cX11_undo 27 = .ok (.iadd, 1) := by decide +kernel
theorem dX11_undo_28 : decode cX11_undo 28 = .ok (.bipush 14, 2) := by decide +kernel
theorem dX11_undo_30 : decode cX11_undo 30 = .ok (.irem, 1) := by decide +kernel
theorem dX11_undo_31 : decode cX11_undo 31 = .ok (.putfield 142, 3) := by decide +kernel
theorem dX11_undo_34 : decode cX11_undo 34 = .ok (.iconst 0, 1) := by decide +kernel
theorem dX11_undo_35 : decode cX11_undo 35 = .ok (.istore_n 1, 1) := by decide +kernel
theorem dX11_undo_36 : decode cX11_undo 36 = .ok (.iload_n 1, 1) := by decide +kernel
theorem dX11_undo_37 : decode cX11_undo 37 = .ok (.bipush 50, 2) := by decide +kernel
theorem dX11_undo_39 : decode cX11_undo 39 = .ok (.if_icmp .ge 29, 3) := by decide +kernel
theorem dX11_undo_42 : decode cX11_undo 42 = .ok (.aload_n 0, 1) := by decide +kernel
theorem dX11_undo_43 : decode cX11_undo 43 = .ok (.getfield 13, 3) := by decide +kernel
theorem dX11_undo_46 : decode cX11_undo 46 = .ok (.iload_n 1, 1) := by decide +kernel
theorem dX11_undo_47 : decode cX11_undo 47 = .ok (.aload_n 0, 1) := by decide +kernel
theorem dX11_undo_48 : decode cX11_undo 48 = .ok (.getfield 32, 3) := by decide +kernel
theorem dX11_undo_51 : decode cX11_undo 51 = .ok (.bipush 50, 2) := by decide +kernel
theorem dX11_undo_53 : decode cX11_undo 53 = .ok (.aload_n 0, 1) := by decide +kernel
theorem dX11_undo_54 : decode cX11_undo 54 = .ok (.getfield 142, 3) := by decide +kernel
theorem dX11_undo_57 : decode cX11_undo 57 = .ok (.imul, 1) := by decide +kernel
theorem dX11_undo_58 : decode cX11_undo 58 = .ok (.iload_n 1, 1) := by decide +kernel
theorem dX11_undo_59 : decode cX11_undo 59 = .ok (.iadd, 1) := by decide +kernel
theorem dX11_undo_60 : decode cX11_undo 60 = .ok (.iaload, 1) := by decide +kernel
theorem dX11_undo_61 : decode cX11_undo 61 = .ok (.iastore, 1) := by decide +kernel
theorem dX11_undo_62 : decode cX11_undo 62 = .ok (.iinc 1 1, 3) := by decide +kernel
theorem dX11_undo_65 : decode cX11_undo 65 = .ok (.goto (-29), 3) := by decide +kernel
theorem dX11_undo_68 : decode cX11_undo 68 = .ok (.aload_n 0, 1) := by decide +kernel
theorem dX11_undo_69 : decode cX11_undo 69 = .ok (.getfield 96, 3) := by decide +kernel
theorem dX11_undo_72 : decode cX11_undo 72 = .ok (.ireturn, 1) := by decide +kernel
set_option maxRecDepth 20000 in
theorem ggX11_stamp_X11_isKnot : GoodIn wsX11_stamp wsX11_isKnot := goodIn_r _ [6, 7, 8, 9, 5, 10, 19, 20, 21, 22, 23, 24, 25, 26, 27, 28, 29, 30, 31, 32, 33, 34, 35, 36, 37, 38, 39, 40] (by decide +kernel) (by decide +kernel)
set_option maxRecDepth 20000 in
theorem gX11_stamp_X11_isKnot : GoodIn wsX11_stamp (wsV RX11 116 RX11 yX11_isKnot wsX11_isKnot) := goodIn_app (goodIn_of _ (by decide +kernel)) ggX11_stamp_X11_isKnot
set_option maxRecDepth 20000 in
theorem ggX11_stamp_X11_find : GoodIn wsX11_stamp wsX11_find := goodIn_r _ [14, 1, 15, 16, 17, 5, 18, 19, 20, 21, 22, 23, 24, 25, 26, 27, 28, 29, 30, 31, 32, 33, 34, 35, 36, 37, 38, 39, 40] (by decide +kernel) (by decide +kernel)
set_option maxRecDepth 20000 in
theorem gX11_stamp_X11_find : GoodIn wsX11_stamp (wsV RX11 84 RX11 yX11_find wsX11_find) := goodIn_app (goodIn_of _ (by decide +kernel)) ggX11_stamp_X11_find
theorem dX11_stamp_0 : decode cX11_stamp 0 = .ok (.aload_n 0, 1) := by decide +kernel
theorem dX11_stamp_1 : decode cX11_stamp 1 = .ok (.iload_n 1, 1) := by decide +kernel
theorem dX11_stamp_2 : decode cX11_stamp 2 = .ok (.invokevirtual 116, 3) := by decide +kernel
theorem dX11_stamp_5 : decode cX11_stamp 5 = .ok (.ifCond .eq 11, 3) := by decide +kernel
theorem dX11_stamp_8 : decode cX11_stamp 8 = .ok (.aload_n 0, 1) := by decide +kernel
theorem dX11_stamp_9 : decode cX11_stamp 9 = .ok (.iload_n 2, 1) := by decide +kernel
theorem dX11_stamp_10 : decode cX11_stamp 10 = .ok (.invokevirtual 116, 3) := by decide +kernel
theorem dX11_stamp_13 : decode cX11_stamp 13 = .ok (.ifCond .ne 5, 3) := by decide +kernel
theorem dX11_stamp_16 : decode cX11_stamp 16 = .ok (.iconst (-1), 1) := by decide +kernel
theorem dX11_stamp_17 : decode cX11_stamp 17 = .ok (.ireturn, 1) := by decide +kernel
theorem dX11_stamp_18 : decode cX11_stamp 18 = .ok (.aload_n 0, 1) := by decide +kernel
theorem dX11_stamp_19 : decode cX11_stamp 19 = .ok (.iconst 0, 1) := by decide +kernel
theorem dX11_stamp_20 : decode cX11_stamp 20 = .ok (.iload_n 1, 1) := by decide +kernel
theorem dX11_stamp_21 : decode cX11_stamp 21 = .ok (.iload_n 2, 1) := by decide +kernel
theorem dX11_stamp_22 : decode cX11_stamp 22 = .ok (.invokevirtual 84, 3) := by decide +kernel
theorem dX11_stamp_25 : decode cX11_stamp 25 = .ok (.istore_n 3, 1) := by decide +kernel
theorem dX11_stamp_26 : decode cX11_stamp 26 = .ok (.iload_n 3, 1) := by decide +kernel
theorem dX11_stamp_27 : decode cX11_stamp 27 = .ok (.bipush (-9), 2) := by decide +kernel
theorem dX11_stamp_29 : decode cX11_stamp 29 = .ok (.if_icmp .ne 8, 3) := by decide +kernel
theorem dX11_stamp_32 : decode cX11_stamp 32 = .ok (.bipush (-9), 2) := by decide +kernel
theorem dX11_stamp_34 : decode cX11_stamp 34 = .ok (.goto 12, 3) := by decide +kernel
theorem dX11_stamp_37 : decode cX11_stamp 37 = .ok (.aload_n 0, 1) := by decide +kernel
theorem dX11_stamp_38 : decode cX11_stamp 38 = .ok (.getfield 13, 3) := by decide +kernel
theorem dX11_stamp_41 : decode cX11_stamp 41 = .ok (.bipush 26, 2) := by decide +kernel
theorem dX11_stamp_43 : decode cX11_stamp 43 = .ok (.iload_n 3, 1) := by decide +kernel
theorem dX11_stamp_44 : decode cX11_stamp 44 = .ok (.iadd, 1) := by decide +kernel
theorem dX11_stamp_45 : decode cX11_stamp 45 = .ok (.iaload, 1) := by decide +kernel
theorem dX11_stamp_46 : decode cX11_stamp 46 = .ok (.ireturn, 1) := by decide +kernel
set_option maxRecDepth 20000 in
theorem ggX11_edge_X11_many : GoodIn wsX11_edge wsX11_many := goodIn_r _ [6, 1, 10, 11, 12, 13, 14, 15, 16, 17, 18, 19, 20, 21, 22, 23, 24, 25, 26, 27, 28, 29, 30, 31] (by decide +kernel) (by decide +kernel)
set_option maxRecDepth 20000 in
theorem gX11_edge_X11_many : GoodIn wsX11_edge (wsV RX11 66 RX11 yX11_many wsX11_many) := goodIn_app (goodIn_of _ (by decide +kernel)) ggX11_edge_X11_many
set_option maxRecDepth 20000 in
theorem ggX11_edge_X11_in : GoodIn wsX11_edge wsX11_in := goodIn_r _ [9] (by decide +kernel) (by decide +kernel)
set_option maxRecDepth 20000 in
theorem gX11_edge_X11_in : GoodIn wsX11_edge (va_wsS RX11 59 yX11_in wsX11_in) := goodIn_app (goodIn_of _ (by decide +kernel)) ggX11_edge_X11_in
theorem dX11_edge_0 : decode cX11_edge 0 = .ok (.iload_n 1, 1) := by decide +kernel
theorem dX11_edge_1 : decode cX11_edge 1 = .ok (.i2l, 1) := by decide +kernel
theorem dX11_edge_2 : decode cX11_edge 2 = .ok (.lconst 0, 1) := by decide +kernel
theorem dX11_edge_3 : decode cX11_edge 3 = .ok (.aload_n 0, 1) := by decide +kernel
theorem dX11_edge_4 : decode cX11_edge 4 = .ok (.iconst 0, 1) := by decide +kernel
theorem dX11_edge_5 : decode cX11_edge 5 = .ok (.invokevirtual 66, 3) := by decide +kernel
theorem dX11_edge_8 : decode cX11_edge 8 = .ok (.iconst 1, 1) := by decide +kernel
theorem dX11_edge_9 : decode cX11_edge 9 = .ok (.isub, 1) := by decide +kernel
theorem dX11_edge_10 : decode cX11_edge 10 = .ok (.i2l, 1) := by decide +kernel
theorem dX11_edge_11 : decode cX11_edge 11 = .ok (.invokestatic 59, 3) := by decide +kernel
theorem dX11_edge_14 : decode cX11_edge 14 = .ok (.ifCond .eq 14, 3) := by decide +kernel
theorem dX11_edge_17 : decode cX11_edge 17 = .ok (.aload_n 0, 1) := by decide +kernel
theorem dX11_edge_18 : decode cX11_edge 18 = .ok (.getfield 13, 3) := by decide +kernel
theorem dX11_edge_21 : decode cX11_edge 21 = .ok (.iconst 2, 1) := by decide +kernel
theorem dX11_edge_22 : decode cX11_edge 22 = .ok (.iload_n 1, 1) := by decide +kernel
theorem dX11_edge_23 : decode cX11_edge 23 = .ok (.iadd, 1) := by decide +kernel
theorem dX11_edge_24 : decode cX11_edge 24 = .ok (.iaload, 1) := by decide +kernel
theorem dX11_edge_25 : decode cX11_edge 25 = .ok (.goto 5, 3) := by decide +kernel
theorem dX11_edge_28 : decode cX11_edge 28 = .ok (.bipush (-9), 2) := by decide +kernel
theorem dX11_edge_30 : decode cX11_edge 30 = .ok (.ireturn, 1) := by decide +kernel
theorem dX11_layTrial_0 : decode cX11_layTrial 0 = .ok (.iconst 0, 1) := by decide +kernel
theorem dX11_layTrial_1 : decode cX11_layTrial 1 = .ok (.istore_n 1, 1) := by decide +kernel
theorem dX11_layTrial_2 : decode cX11_layTrial 2 = .ok (.iload_n 1, 1) := by decide +kernel
theorem dX11_layTrial_3 : decode cX11_layTrial 3 = .ok (.bipush 50, 2) := by decide +kernel
theorem dX11_layTrial_5 : decode cX11_layTrial 5 = .ok (.if_icmp .ge 24, 3) := by decide +kernel
theorem dX11_layTrial_8 : decode cX11_layTrial 8 = .ok (.aload_n 0, 1) := by decide +kernel
theorem dX11_layTrial_9 : decode cX11_layTrial 9 = .ok (.getfield 13, 3) := by decide +kernel
theorem dX11_layTrial_12 : decode cX11_layTrial 12 = .ok (.bipush 50, 2) := by decide +kernel
theorem dX11_layTrial_14 : decode cX11_layTrial 14 = .ok (.iload_n 1, 1) := by decide +kernel
theorem dX11_layTrial_15 : decode cX11_layTrial 15 = .ok (.iadd, 1) := by decide +kernel
theorem dX11_layTrial_16 : decode cX11_layTrial 16 = .ok (.aload_n 0, 1) := by decide +kernel
theorem dX11_layTrial_17 : decode cX11_layTrial 17 = .ok (.getfield 13, 3) := by decide +kernel
theorem dX11_layTrial_20 : decode cX11_layTrial 20 = .ok (.iload_n 1, 1) := by decide +kernel
theorem dX11_layTrial_21 : decode cX11_layTrial 21 = .ok (.iaload, 1) := by decide +kernel
theorem dX11_layTrial_22 : decode cX11_layTrial 22 = .ok (.iastore, 1) := by decide +kernel
theorem dX11_layTrial_23 : decode cX11_layTrial 23 = .ok (.iinc 1 1, 3) := by decide +kernel
theorem dX11_layTrial_26 : decode cX11_layTrial 26 = .ok (.goto (-24), 3) := by decide +kernel
theorem dX11_layTrial_29 : decode cX11_layTrial 29 = .ok (.return_, 1) := by decide +kernel
set_option maxRecDepth 20000 in
theorem ggX11_nearest_X11_isKnot : GoodIn wsX11_nearest wsX11_isKnot := goodIn_r _ [7, 8, 9, 10, 6, 11, 43, 44, 45, 46, 47, 48, 49, 50, 51, 52, 53, 54, 55, 56, 57, 58, 59, 60, 61, 62, 63, 64] (by decide +kernel) (by decide +kernel)
set_option maxRecDepth 20000 in
theorem gX11_nearest_X11_isKnot : GoodIn wsX11_nearest (wsV RX11 116 RX11 yX11_isKnot wsX11_isKnot) := goodIn_app (goodIn_of _ (by decide +kernel)) ggX11_nearest_X11_isKnot
set_option maxRecDepth 20000 in
theorem ggX11_nearest_X11_findCovers : GoodIn wsX11_nearest wsX11_findCovers := goodIn_r _ [15, 1, 2, 16, 17, 18, 6, 19, 20, 21, 22, 23, 24, 25, 26, 27, 28, 29, 30, 31, 32, 33, 34, 35, 43, 44, 45, 46, 47, 48, 49, 50, 51, 52, 53, 54, 55, 56, 57, 58, 59, 60, 61, 62, 63, 64] (by decide +kernel) (by decide +kernel)
set_option maxRecDepth 20000 in
theorem gX11_nearest_X11_findCovers : GoodIn wsX11_nearest (wsV RX11 120 RX11 yX11_findCovers wsX11_findCovers) := goodIn_app (goodIn_of _ (by decide +kernel)) ggX11_nearest_X11_findCovers
set_option maxRecDepth 20000 in
theorem ggX11_nearest_X11_has : GoodIn wsX11_nearest wsX11_has := goodIn_r _ [35] (by decide +kernel) (by decide +kernel)
set_option maxRecDepth 20000 in
theorem gX11_nearest_X11_has : GoodIn wsX11_nearest (va_wsS RX11 102 yX11_has wsX11_has) := goodIn_app (goodIn_of _ (by decide +kernel)) ggX11_nearest_X11_has
set_option maxRecDepth 20000 in
theorem ggX11_nearest_X11_depthOf : GoodIn wsX11_nearest wsX11_depthOf := goodIn_r _ [39, 1, 2, 33, 34, 6, 35, 40, 41, 42, 43, 44, 45, 46, 47, 48, 49, 50, 51, 52, 53, 54, 55, 56, 57, 58, 59, 60, 61, 62, 63, 64] (by decide +kernel) (by decide +kernel)
set_option maxRecDepth 20000 in
theorem gX11_nearest_X11_depthOf : GoodIn wsX11_nearest (wsV RX11 130 RX11 yX11_depthOf wsX11_depthOf) := goodIn_app (goodIn_of _ (by decide +kernel)) ggX11_nearest_X11_depthOf
theorem dX11_nearest_0 : decode cX11_nearest 0 = .ok (.aload_n 0, 1) := by decide +kernel
theorem dX11_nearest_1 : decode cX11_nearest 1 = .ok (.iload_n 1, 1) := by decide +kernel
theorem dX11_nearest_2 : decode cX11_nearest 2 = .ok (.invokevirtual 116, 3) := by decide +kernel
theorem dX11_nearest_5 : decode cX11_nearest 5 = .ok (.ifCond .eq 11, 3) := by decide +kernel
theorem dX11_nearest_8 : decode cX11_nearest 8 = .ok (.aload_n 0, 1) := by decide +kernel
theorem dX11_nearest_9 : decode cX11_nearest 9 = .ok (.iload_n 2, 1) := by decide +kernel
theorem dX11_nearest_10 : decode cX11_nearest 10 = .ok (.invokevirtual 116, 3) := by decide +kernel
theorem dX11_nearest_13 : decode cX11_nearest 13 = .ok (.ifCond .ne 5, 3) := by decide +kernel
theorem dX11_nearest_16 : decode cX11_nearest 16 = .ok (.iconst (-1), 1) := by decide +kernel
theorem dX11_nearest_17 : decode cX11_nearest 17 = .ok (.ireturn, 1) := by decide +kernel
theorem dX11_nearest_18 : decode cX11_nearest 18 = .ok (.aload_n 0, 1) := by decide +kernel
theorem dX11_nearest_19 : decode cX11_nearest 19 = .ok (.iconst 0, 1) := by decide +kernel
theorem dX11_nearest_20 : decode cX11_nearest 20 = .ok (.invokevirtual 120, 3) := by decide +kernel
theorem dX11_nearest_23 : decode cX11_nearest 23 = .ok (.aload_n 0, 1) := by decide +kernel
theorem dX11_nearest_24 : decode cX11_nearest 24 = .ok (.getfield 110, 3) := by decide +kernel
theorem dX11_nearest_27 : decode cX11_nearest 27 = .ok (.iload_n 1, 1) := by decide +kernel
theorem dX11_nearest_28 : decode cX11_nearest 28 = .ok (.invokestatic 102, 3) := by decide +kernel
theorem dX11_nearest_31 : decode cX11_nearest 31 = .ok (.ifCond .eq 14, 3) := by decide +kernel
theorem dX11_nearest_34 : decode cX11_nearest 34 = .ok (.aload_n 0, 1) := by decide +kernel
theorem dX11_nearest_35 : decode cX11_nearest 35 = .ok (.getfield 110, 3) := by decide +kernel
theorem dX11_nearest_38 : decode cX11_nearest 38 = .ok (.iload_n 2, 1) := by decide +kernel
theorem dX11_nearest_39 : decode cX11_nearest 39 = .ok (.invokestatic 102, 3) := by decide +kernel
theorem dX11_nearest_42 : decode cX11_nearest 42 = .ok (.ifCond .ne 6, 3) := by decide +kernel
theorem dX11_nearest_45 : decode cX11_nearest 45 = .ok (.bipush (-3), 2) := by decide +kernel
theorem dX11_nearest_47 : decode cX11_nearest 47 = .ok (.ireturn, 1) := by decide +kernel
theorem dX11_nearest_48 : decode cX11_nearest 48 = .ok (.iconst 0, 1) := by decide +kernel
theorem dX11_nearest_49 : decode cX11_nearest 49 = .ok (.istore_n 3, 1) := by decide +kernel
theorem dX11_nearest_50 : decode cX11_nearest 50 = .ok (.iconst 0, 1) := by decide +kernel
theorem dX11_nearest_51 : decode cX11_nearest 51 = .ok (.istore 4, 2) := by decide +kernel
theorem dX11_nearest_53 : decode cX11_nearest 53 = .ok (.iload 4, 2) := by decide +kernel
theorem dX11_nearest_55 : decode cX11_nearest 55 = .ok (.bipush 8, 2) := by decide +kernel
theorem dX11_nearest_57 : decode cX11_nearest 57 = .ok (.if_icmp .ge 51, 3) := by decide +kernel
theorem dX11_nearest_60 : decode cX11_nearest 60 = .ok (.aload_n 0, 1) := by decide +kernel
theorem dX11_nearest_61 : decode cX11_nearest 61 = .ok (.getfield 20, 3) := by decide +kernel
theorem dX11_nearest_64 : decode cX11_nearest 64 = .ok (.iload_n 1, 1) := by decide +kernel
theorem dX11_nearest_65 : decode cX11_nearest 65 = .ok (.iaload, 1) := by decide +kernel
theorem dX11_nearest_66 : decode cX11_nearest 66 = .ok (.aload_n 0, 1) := by decide +kernel
theorem dX11_nearest_67 : decode cX11_nearest 67 = .ok (.getfield 20, 3) := by decide +kernel
theorem dX11_nearest_70 : decode cX11_nearest 70 = .ok (.iload_n 2, 1) := by decide +kernel
theorem dX11_nearest_71 : decode cX11_nearest 71 = .ok (.iaload, 1) := by decide +kernel
theorem dX11_nearest_72 : decode cX11_nearest 72 = .ok (.iand, 1) := by decide +kernel
theorem dX11_nearest_73 : decode cX11_nearest 73 = .ok (.iload 4, 2) := by decide +kernel
theorem dX11_nearest_75 : decode cX11_nearest 75 = .ok (.invokestatic 102, 3) := by decide +kernel
theorem dX11_nearest_78 : decode cX11_nearest 78 = .ok (.ifCond .eq 22, 3) := by decide +kernel
theorem dX11_nearest_81 : decode cX11_nearest 81 = .ok (.aload_n 0, 1) := by decide +kernel
theorem dX11_nearest_82 : decode cX11_nearest 82 = .ok (.iload 4, 2) := by decide +kernel
theorem dX11_nearest_84 : decode cX11_nearest 84 = .ok (.invokevirtual 130, 3) := by decide +kernel
theorem dX11_nearest_87 : decode cX11_nearest 87 = .ok (.aload_n 0, 1) := by decide +kernel
theorem dX11_nearest_88 : decode cX11_nearest 88 = .ok (.iload_n 3, 1) := by decide +kernel
theorem dX11_nearest_89 : decode cX11_nearest 89 = .ok (.invokevirtual 130, 3) := by decide +kernel
theorem dX11_nearest_92 : decode cX11_nearest 92 = .ok (.if_icmp .le 8, 3) := by decide +kernel
theorem dX11_nearest_95 : decode cX11_nearest 95 = .ok (.iload 4, 2) := by decide +kernel
theorem dX11_nearest_97 : decode cX11_nearest 97 = .ok (.goto 4, 3) := by decide +kernel
theorem dX11_nearest_100 : decode cX11_nearest 100 = .ok (.iload_n 3, 1) := by decide +kernel
theorem dX11_nearest_101 : decode cX11_nearest 101 = .ok (.istore_n 3, 1) := by decide +kernel
theorem dX11_nearest_102 : decode cX11_nearest 102 = .ok (.iinc 4 1, 3) := by decide +kernel
theorem dX11_nearest_105 : decode cX11_nearest 105 = .ok (.goto (-52), 3) := by decide +kernel
theorem dX11_nearest_108 : decode cX11_nearest 108 = .ok (.iload_n 3, 1) := by decide +kernel
theorem dX11_nearest_109 : decode cX11_nearest 109 = .ok (.ireturn, 1) := by decide +kernel
set_option maxRecDepth 20000 in
theorem ggX11_would_X11_isKnot : GoodIn wsX11_would wsX11_isKnot := goodIn_r _ [7, 8, 9, 10, 6, 11, 57, 58, 59, 60, 61, 62, 63, 64, 65, 66, 67, 68, 69, 70, 71, 72, 73, 74, 75, 76, 77, 78] (by decide +kernel) (by decide +kernel)
set_option maxRecDepth 20000 in
theorem gX11_would_X11_isKnot : GoodIn wsX11_would (wsV RX11 116 RX11 yX11_isKnot wsX11_isKnot) := goodIn_app (goodIn_of _ (by decide +kernel)) ggX11_would_X11_isKnot
set_option maxRecDepth 20000 in
theorem ggX11_would_X11_find : GoodIn wsX11_would wsX11_find := goodIn_r _ [15, 16, 17, 18, 19, 6, 20, 57, 58, 59, 60, 61, 62, 63, 64, 65, 66, 67, 68, 69, 70, 71, 72, 73, 74, 75, 76, 77, 78] (by decide +kernel) (by decide +kernel)
set_option maxRecDepth 20000 in
theorem gX11_would_X11_find : GoodIn wsX11_would (wsV RX11 84 RX11 yX11_find wsX11_find) := goodIn_app (goodIn_of _ (by decide +kernel)) ggX11_would_X11_find
set_option maxRecDepth 20000 in
theorem ggX11_would_X11_many : GoodIn wsX11_would wsX11_many := goodIn_r _ [20, 16, 57, 58, 59, 60, 61, 62, 63, 64, 65, 66, 67, 68, 69, 70, 71, 72, 73, 74, 75, 76, 77, 78] (by decide +kernel) (by decide +kernel)
set_option maxRecDepth 20000 in
theorem gX11_would_X11_many : GoodIn wsX11_would (wsV RX11 66 RX11 yX11_many wsX11_many) := goodIn_app (goodIn_of _ (by decide +kernel)) ggX11_would_X11_many
set_option maxRecDepth 20000 in
theorem ggX11_would_X11_findCovers : GoodIn wsX11_would wsX11_findCovers := goodIn_r _ [24, 1, 25, 26, 27, 28, 6, 29, 17, 18, 19, 20, 16, 30, 31, 32, 33, 34, 35, 36, 37, 38, 39, 40, 57, 58, 59, 60, 61, 62, 63, 64, 65, 66, 67, 68, 69, 70, 71, 72, 73, 74, 75, 76, 77, 78] (by decide +kernel) (by decide +kernel)
set_option maxRecDepth 20000 in
theorem gX11_would_X11_findCovers : GoodIn wsX11_would (wsV RX11 120 RX11 yX11_findCovers wsX11_findCovers) := goodIn_app (goodIn_of _ (by decide +kernel)) ggX11_would_X11_findCovers
set_option maxRecDepth 20000 in
theorem ggX11_would_X11_lidOf : GoodIn wsX11_would wsX11_lidOf := goodIn_r _ [44, 1, 25, 38, 39, 6, 40, 57, 58, 59, 60, 61, 62, 63, 64, 65, 66, 67, 68, 69, 70, 71, 72, 73, 74, 75, 76, 77, 78] (by decide +kernel) (by decide +kernel)
set_option maxRecDepth 20000 in
theorem gX11_would_X11_lidOf : GoodIn wsX11_would (wsV RX11 127 RX11 yX11_lidOf wsX11_lidOf) := goodIn_app (goodIn_of _ (by decide +kernel)) ggX11_would_X11_lidOf
set_option maxRecDepth 20000 in
theorem ggX11_would_X11_layTrial : GoodIn wsX11_would wsX11_layTrial := goodIn_r _ [48, 16, 57, 58, 59, 60, 61, 62, 63, 64, 65, 66, 67, 68, 69, 70, 71, 72, 73, 74, 75, 76, 77, 78] (by decide +kernel) (by decide +kernel)
set_option maxRecDepth 20000 in
theorem gX11_would_X11_layTrial : GoodIn wsX11_would (wsV RX11 152 RX11 yX11_layTrial wsX11_layTrial) := goodIn_app (goodIn_of _ (by decide +kernel)) ggX11_would_X11_layTrial
set_option maxRecDepth 20000 in
theorem ggX11_would_X11_insertOn : GoodIn wsX11_would wsX11_insertOn := goodIn_r _ [52, 16, 57, 58, 59, 60, 61, 62, 63, 64, 65, 66, 67, 68, 69, 70, 71, 72, 73, 74, 75, 76, 77, 78] (by decide +kernel) (by decide +kernel)
set_option maxRecDepth 20000 in
theorem gX11_would_X11_insertOn : GoodIn wsX11_would (wsV RX11 88 RX11 yX11_insertOn wsX11_insertOn) := goodIn_app (goodIn_of _ (by decide +kernel)) ggX11_would_X11_insertOn
set_option maxRecDepth 20000 in
theorem ggX11_would_X11_deleteOn : GoodIn wsX11_would wsX11_deleteOn := goodIn_r _ [56, 16, 57, 58, 59, 60, 61, 62, 63, 64, 65, 66, 67, 68, 69, 70, 71, 72, 73, 74, 75, 76, 77, 78] (by decide +kernel) (by decide +kernel)
set_option maxRecDepth 20000 in
theorem gX11_would_X11_deleteOn : GoodIn wsX11_would (wsV RX11 148 RX11 yX11_deleteOn wsX11_deleteOn) := goodIn_app (goodIn_of _ (by decide +kernel)) ggX11_would_X11_deleteOn
set_option maxRecDepth 20000 in
theorem ggX11_would_X11_has : GoodIn wsX11_would wsX11_has := goodIn_r _ [40] (by decide +kernel) (by decide +kernel)
set_option maxRecDepth 20000 in
theorem gX11_would_X11_has : GoodIn wsX11_would (va_wsS RX11 102 yX11_has wsX11_has) := goodIn_app (goodIn_of _ (by decide +kernel)) ggX11_would_X11_has
theorem dX11_would_0 : decode cX11_would 0 = .ok (.aload_n 0, 1) := by decide +kernel
theorem dX11_would_1 : decode cX11_would 1 = .ok (.iload_n 1, 1) := by decide +kernel
theorem dX11_would_2 : decode cX11_would 2 = .ok (.invokevirtual 116, 3) := by decide +kernel
theorem dX11_would_5 : decode cX11_would 5 = .ok (.ifCond .eq 11, 3) := by decide +kernel
theorem dX11_would_8 : decode cX11_would 8 = .ok (.aload_n 0, 1) := by decide +kernel
theorem dX11_would_9 : decode cX11_would 9 = .ok (.iload_n 2, 1) := by decide +kernel
theorem dX11_would_10 : decode cX11_would 10 = .ok (.invokevirtual 116, 3) := by decide +kernel
theorem dX11_would_13 : decode cX11_would 13 = .ok (.ifCond .ne 5, 3) := by decide +kernel
theorem dX11_would_16 : decode cX11_would 16 = .ok (.iconst (-1), 1) := by decide +kernel
theorem dX11_would_17 : decode cX11_would 17 = .ok (.ireturn, 1) := by decide +kernel
theorem dX11_would_18 : decode cX11_would 18 = .ok (.iload_n 1, 1) := by decide +kernel
theorem dX11_would_19 : decode cX11_would 19 = .ok (.iload_n 2, 1) := by decide +kernel
theorem dX11_would_20 : decode cX11_would 20 = .ok (.if_icmp .ne 6, 3) := by decide +kernel
theorem dX11_would_23 : decode cX11_would 23 = .ok (.bipush (-2), 2) := by decide +kernel
theorem dX11_would_25 : decode cX11_would 25 = .ok (.ireturn, 1) := by decide +kernel
theorem dX11_would_26 : decode cX11_would 26 = .ok (.aload_n 0, 1) := by decide +kernel
theorem dX11_would_27 : decode cX11_would 27 = .ok (.iconst 0, 1) := by decide +kernel
theorem dX11_would_28 : decode cX11_would 28 = .ok (.iload_n 1, 1) := by decide +kernel
theorem dX11_would_29 : decode cX11_would 29 = .ok (.iload_n 2, 1) := by decide +kernel
theorem dX11_would_30 : decode cX11_would 30 = .ok (.invokevirtual 84, 3) := by decide +kernel
theorem dX11_would_33 : decode cX11_would 33 = .ok (.istore_n 3, 1) := by decide +kernel
theorem dX11_would_34 : decode cX11_would 34 = .ok (.iload_n 3, 1) := by decide +kernel
theorem dX11_would_35 : decode cX11_would 35 = .ok (.bipush (-9), 2) := by decide +kernel
theorem dX11_would_37 : decode cX11_would 37 = .ok (.if_icmp .ne 16, 3) := by decide +kernel
theorem dX11_would_40 : decode cX11_would 40 = .ok (.aload_n 0, 1) := by decide +kernel
theorem dX11_would_41 : decode cX11_would 41 = .ok (.iconst 0, 1) := by decide +kernel
theorem dX11_would_42 : decode cX11_would 42 = .ok (.invokevirtual 66, 3) := by decide +kernel
theorem dX11_would_45 : decode cX11_would 45 = .ok (.bipush 24, 2) := by decide +kernel
theorem dX11_would_47 : decode cX11_would 47 = .ok (.if_icmp .ne 6, 3) := by decide +kernel
theorem dX11_would_50 : decode cX11_would 50 = .ok (.bipush (-4), 2) := by decide +kernel
theorem dX11_would_52 : decode cX11_would 52 = .ok (.ireturn, 1) := by decide +kernel
theorem dX11_would_53 : decode cX11_would 53 = .ok (.aload_n 0, 1) := by decide +kernel
theorem dX11_would_54 : decode cX11_would 54 = .ok (.iconst 0, 1) := by decide +kernel
theorem dX11_would_55 : decode cX11_would 55 = .ok (.invokevirtual 120, 3) := by decide +kernel
theorem dX11_would_58 : decode cX11_would 58 = .ok (.aload_n 0, 1) := by decide +kernel
theorem dX11_would_59 : decode cX11_would 59 = .ok (.getfield 110, 3) := by decide +kernel
theorem dX11_would_62 : decode cX11_would 62 = .ok (.istore 4, 2) := by decide +kernel
theorem dX11_would_64 : decode cX11_would 64 = .ok (.iconst 0, 1) := by decide +kernel
theorem dX11_would_65 : decode cX11_would 65 = .ok (.istore 5, 2) := by decide +kernel
theorem dX11_would_67 : decode cX11_would 67 = .ok (.iload 5, 2) := by decide +kernel
theorem dX11_would_69 : decode cX11_would 69 = .ok (.bipush 8, 2) := by decide +kernel
theorem dX11_would_71 : decode cX11_would 71 = .ok (.if_icmp .ge 22, 3) := by decide +kernel
theorem dX11_would_74 : decode cX11_would 74 = .ok (.aload_n 0, 1) := by decide +kernel
theorem dX11_would_75 : decode cX11_would 75 = .ok (.getfield 35, 3) := by decide +kernel
theorem dX11_would_78 : decode cX11_would 78 = .ok (.iload 5, 2) := by decide +kernel
theorem dX11_would_80 : decode cX11_would 80 = .ok (.aload_n 0, 1) := by decide +kernel
theorem dX11_would_81 : decode cX11_would 81 = .ok (.iload 5, 2) := by decide +kernel
theorem dX11_would_83 : decode cX11_would 83 = .ok (.invokevirtual 127, 3) := by decide +kernel
theorem dX11_would_86 : decode cX11_would 86 = .ok (.iastore, 1) := by decide +kernel
theorem dX11_would_87 : decode cX11_would 87 = .ok (.iinc 5 1, 3) := by decide +kernel
theorem dX11_would_90 : decode cX11_would 90 = .ok (.goto (-23), 3) := by decide +kernel
theorem dX11_would_93 : decode cX11_would 93 = .ok (.aload_n 0, 1) := by decide +kernel
theorem dX11_would_94 : decode cX11_would 94 = .ok (.invokevirtual 152, 3) := by decide +kernel
theorem dX11_would_97 : decode cX11_would 97 = .ok (.iload_n 3, 1) := by decide +kernel
theorem dX11_would_98 : decode cX11_would 98 = .ok (.bipush (-9), 2) := by decide +kernel
theorem dX11_would_100 : decode cX11_would 100 = .ok (.if_icmp .ne 13, 3) := by decide +kernel
theorem dX11_would_103 : decode cX11_would 103 = .ok (.aload_n 0, 1) := by decide +kernel
theorem dX11_would_104 : decode cX11_would 104 = .ok (.iconst 1, 1) := by decide +kernel
theorem dX11_would_105 : decode cX11_would 105 = .ok (.iload_n 1, 1) := by decide +kernel
theorem dX11_would_106 : decode cX11_would 106 = .ok (.iload_n 2, 1) := by decide +kernel
theorem dX11_would_107 : decode cX11_would 107 = .ok (.invokevirtual 88, 3) := by decide +kernel
theorem dX11_would_110 : decode cX11_would 110 = .ok (.goto 9, 3) := by decide +kernel
theorem dX11_would_113 : decode cX11_would 113 = .ok (.aload_n 0, 1) := by decide +kernel
theorem dX11_would_114 : decode cX11_would 114 = .ok (.iconst 1, 1) := by decide +kernel
theorem dX11_would_115 : decode cX11_would 115 = .ok (.iload_n 3, 1) := by decide +kernel
theorem dX11_would_116 : decode cX11_would 116 = .ok (.invokevirtual 148, 3) := by decide +kernel
theorem dX11_would_119 : decode cX11_would 119 = .ok (.aload_n 0, 1) := by decide +kernel
theorem dX11_would_120 : decode cX11_would 120 = .ok (.iconst 1, 1) := by decide +kernel
theorem dX11_would_121 : decode cX11_would 121 = .ok (.invokevirtual 120, 3) := by decide +kernel
theorem dX11_would_124 : decode cX11_would 124 = .ok (.iconst 0, 1) := by decide +kernel
theorem dX11_would_125 : decode cX11_would 125 = .ok (.istore 5, 2) := by decide +kernel
theorem dX11_would_127 : decode cX11_would 127 = .ok (.iconst 0, 1) := by decide +kernel
theorem dX11_would_128 : decode cX11_would 128 = .ok (.istore 6, 2) := by decide +kernel
theorem dX11_would_130 : decode cX11_would 130 = .ok (.iload 6, 2) := by decide +kernel
theorem dX11_would_132 : decode cX11_would 132 = .ok (.bipush 8, 2) := by decide +kernel
theorem dX11_would_134 : decode cX11_would 134 = .ok (.if_icmp .ge 57, 3) := by decide +kernel
theorem dX11_would_137 : decode cX11_would 137 = .ok (.iload 5, 2) := by decide +kernel
theorem dX11_would_139 : decode cX11_would 139 = .ok (.iload 4, 2) := by decide +kernel
theorem dX11_would_141 : decode cX11_would 141 = .ok (.iload 6, 2) := by decide +kernel
theorem dX11_would_143 : decode cX11_would 143 = .ok (.invokestatic 102, 3) := by decide +kernel
theorem dX11_would_146 : decode cX11_would 146 = .ok (.aload_n 0, 1) := by decide +kernel
theorem dX11_would_147 : decode cX11_would 147 = .ok (.getfield 110, 3) := by decide +kernel
theorem dX11_would_150 : decode cX11_would 150 = .ok (.iload 6, 2) := by decide +kernel
theorem dX11_would_152 : decode cX11_would 152 = .ok (.invokestatic 102, 3) := by decide +kernel
theorem dX11_would_155 : decode cX11_would 155 = .ok (.if_icmp .ne 19, 3) := by decide +kernel
theorem dX11_would_158 : decode cX11_would 158 = .ok (.aload_n 0, 1) := by decide +kernel
theorem dX11_would_159 : decode cX11_would 159 = .ok (.iload 6, 2) := by decide +kernel
theorem dX11_would_161 : decode cX11_would 161 = .ok (.invokevirtual 127, 3) := by decide +kernel
theorem dX11_would_164 : decode cX11_would 164 = .ok (.aload_n 0, 1) := by decide +kernel
theorem dX11_would_165 : decode cX11_would 165 = .ok (.getfield 35, 3) := by decide +kernel
theorem dX11_would_168 : decode cX11_would 168 = .ok (.iload 6, 2) := by decide +kernel
theorem dX11_would_170 : decode cX11_would 170 = .ok (.iaload, 1) := by decide +kernel
theorem dX11_would_171 : decode cX11_would 171 = .ok (.if_icmp .eq 10, 3) := by decide +kernel
theorem dX11_would_174 : decode cX11_would 174 = .ok (.iconst 1, 1) := by decide +kernel
theorem dX11_would_175 : decode cX11_would 175 = .ok (.iload 6, 2) := by decide +kernel
theorem dX11_would_177 : decode cX11_would 177 = .ok (.ishl, 1) := by decide +kernel
theorem dX11_would_178 : decode cX11_would 178 = .ok (.goto 4, 3) := by decide +kernel
theorem dX11_would_181 : decode cX11_would 181 = .ok (.iconst 0, 1) := by decide +kernel
theorem dX11_would_182 : decode cX11_would 182 = .ok (.ior, 1) := by decide +kernel
theorem dX11_would_183 : decode cX11_would 183 = .ok (.istore 5, 2) := by decide +kernel
theorem dX11_would_185 : decode cX11_would 185 = .ok (.iinc 6 1, 3) := by decide +kernel
theorem dX11_would_188 : decode cX11_would 188 = .ok (.goto (-58), 3) := by decide +kernel
theorem dX11_would_191 : decode cX11_would 191 = .ok (.iload 5, 2) := by decide +kernel
theorem dX11_would_193 : decode cX11_would 193 = .ok (.ireturn, 1) := by decide +kernel
set_option maxRecDepth 20000 in
theorem ggX11_firstWrong_X11_in : GoodIn wsX11_firstWrong wsX11_in := goodIn_r _ [8] (by decide +kernel) (by decide +kernel)
set_option maxRecDepth 20000 in
theorem gX11_firstWrong_X11_in : GoodIn wsX11_firstWrong (va_wsS RX11 59 yX11_in wsX11_in) := goodIn_app (goodIn_of _ (by decide +kernel)) ggX11_firstWrong_X11_in
set_option maxRecDepth 20000 in
theorem ggX11_firstWrong_X11_has : GoodIn wsX11_firstWrong wsX11_has := goodIn_r _ [11] (by decide +kernel) (by decide +kernel)
set_option maxRecDepth 20000 in
theorem gX11_firstWrong_X11_has : GoodIn wsX11_firstWrong (va_wsS RX11 102 yX11_has wsX11_has) := goodIn_app (goodIn_of _ (by decide +kernel)) ggX11_firstWrong_X11_has
set_option maxRecDepth 20000 in
theorem ggX11_firstWrong_X11_lidOf : GoodIn wsX11_firstWrong wsX11_lidOf := goodIn_r _ [15, 3, 4, 9, 10, 7, 11, 29, 30, 31, 32, 33, 34, 35, 36, 37, 38, 39, 40, 41, 42, 43, 44, 45, 46, 47, 48, 49, 50] (by decide +kernel) (by decide +kernel)
set_option maxRecDepth 20000 in
theorem gX11_firstWrong_X11_lidOf : GoodIn wsX11_firstWrong (wsV RX11 127 RX11 yX11_lidOf wsX11_lidOf) := goodIn_app (goodIn_of _ (by decide +kernel)) ggX11_firstWrong_X11_lidOf
set_option maxRecDepth 20000 in
theorem ggX11_firstWrong_X11_isShown : GoodIn wsX11_firstWrong wsX11_isShown := goodIn_r _ [19, 1, 4, 20, 21, 22, 7, 23, 24, 25, 26, 27, 28, 9, 10, 11, 12, 13, 14, 15, 3, 29, 30, 31, 32, 33, 34, 35, 36, 37, 38, 39, 40, 41, 42, 43, 44, 45, 46, 47, 48, 49, 50] (by decide +kernel) (by decide +kernel)
set_option maxRecDepth 20000 in
theorem gX11_firstWrong_X11_isShown : GoodIn wsX11_firstWrong (wsV RX11 157 RX11 yX11_isShown wsX11_isShown) := goodIn_app (goodIn_of _ (by decide +kernel)) ggX11_firstWrong_X11_isShown
theorem dX11_firstWrong_0 : decode cX11_firstWrong 0 = .ok (.iconst 0, 1) := by decide +kernel
theorem dX11_firstWrong_1 : decode cX11_firstWrong 1 = .ok (.istore_n 2, 1) := by decide +kernel
theorem dX11_firstWrong_2 : decode cX11_firstWrong 2 = .ok (.iconst 0, 1) := by decide +kernel
theorem dX11_firstWrong_3 : decode cX11_firstWrong 3 = .ok (.istore_n 3, 1) := by decide +kernel
theorem dX11_firstWrong_4 : decode cX11_firstWrong 4 = .ok (.iload_n 3, 1) := by decide +kernel
theorem dX11_firstWrong_5 : decode cX11_firstWrong 5 = .ok (.iload_n 1, 1) := by decide +kernel
theorem dX11_firstWrong_6 : decode cX11_firstWrong 6 = .ok (.if_icmp .ge 100, 3) := by decide +kernel
theorem dX11_firstWrong_9 : decode cX11_firstWrong 9 = .ok (.aload_n 0, 1) := by decide +kernel
theorem dX11_firstWrong_10 : decode cX11_firstWrong 10 = .ok (.getfield 38, 3) := by decide +kernel
theorem dX11_firstWrong_13 : decode cX11_firstWrong 13 = .ok (.iload_n 3, 1) := by decide +kernel
theorem dX11_firstWrong_14 : decode cX11_firstWrong 14 = .ok (.iaload, 1) := by decide +kernel
theorem dX11_firstWrong_15 : decode cX11_firstWrong 15 = .ok (.istore 4, 2) := by decide +kernel
theorem dX11_firstWrong_17 : decode cX11_firstWrong 17 = .ok (.iload 4, 2) := by decide +kernel
theorem dX11_firstWrong_19 : decode cX11_firstWrong 19 = .ok (.i2l, 1) := by decide +kernel
theorem dX11_firstWrong_20 : decode cX11_firstWrong 20 = .ok (.lconst 0, 1) := by decide +kernel
theorem dX11_firstWrong_21 : decode cX11_firstWrong 21 = .ok (.ldc2_w 155, 3) := by decide +kernel
theorem dX11_firstWrong_24 : decode cX11_firstWrong 24 = .ok (.invokestatic 59, 3) := by decide +kernel
theorem dX11_firstWrong_27 : decode cX11_firstWrong 27 = .ok (.ifCond .eq 33, 3) := by decide +kernel
theorem dX11_firstWrong_30 : decode cX11_firstWrong 30 = .ok (.aload_n 0, 1) := by decide +kernel
theorem dX11_firstWrong_31 : decode cX11_firstWrong 31 = .ok (.getfield 110, 3) := by decide +kernel
theorem dX11_firstWrong_34 : decode cX11_firstWrong 34 = .ok (.iload 4, 2) := by decide +kernel
theorem dX11_firstWrong_36 : decode cX11_firstWrong 36 = .ok (.invokestatic 102, 3) := by decide +kernel
theorem dX11_firstWrong_39 : decode cX11_firstWrong 39 = .ok (.ifCond .eq 21, 3) := by decide +kernel
theorem dX11_firstWrong_42 : decode cX11_firstWrong 42 = .ok (.iload_n 2, 1) := by decide +kernel
theorem dX11_firstWrong_43 : decode cX11_firstWrong 43 = .ok (.iload 4, 2) := by decide +kernel
theorem dX11_firstWrong_45 : decode cX11_firstWrong 45 = .ok (.invokestatic 102, 3) := by decide +kernel
theorem dX11_firstWrong_48 : decode cX11_firstWrong 48 = .ok (.ifCond .ne 12, 3) := by decide +kernel
theorem dX11_firstWrong_51 : decode cX11_firstWrong 51 = .ok (.iload_n 3, 1) := by decide +kernel
theorem dX11_firstWrong_52 : decode cX11_firstWrong 52 = .ok (.ifCond .ne 10, 3) := by decide +kernel
theorem dX11_firstWrong_55 : decode cX11_firstWrong 55 = .ok (.iload 4, 2) := by decide +kernel
theorem dX11_firstWrong_57 : decode cX11_firstWrong 57 = .ok (.ifCond .eq 5, 3) := by decide +kernel
theorem dX11_firstWrong_60 : decode cX11_firstWrong 60 = .ok (.iload_n 3, 1) := by decide +kernel
theorem dX11_firstWrong_61 : decode cX11_firstWrong 61 = .ok (.ireturn, 1) := by decide +kernel
theorem dX11_firstWrong_62 : decode cX11_firstWrong 62 = .ok (.iload_n 3, 1) := by decide +kernel
theorem dX11_firstWrong_63 : decode cX11_firstWrong 63 = .ok (.ifCond .le 30, 3) := by decide +kernel
theorem dX11_firstWrong_66 : decode cX11_firstWrong 66 = .ok (.aload_n 0, 1) := by decide +kernel
theorem dX11_firstWrong_67 : decode cX11_firstWrong 67 = .ok (.getfield 20, 3) := by decide +kernel
theorem dX11_firstWrong_70 : decode cX11_firstWrong 70 = .ok (.aload_n 0, 1) := by decide +kernel
theorem dX11_firstWrong_71 : decode cX11_firstWrong 71 = .ok (.getfield 38, 3) := by decide +kernel
theorem dX11_firstWrong_74 : decode cX11_firstWrong 74 = .ok (.iload_n 3, 1) := by decide +kernel
theorem dX11_firstWrong_75 : decode cX11_firstWrong 75 = .ok (.iconst 1, 1) := by decide +kernel
theorem dX11_firstWrong_76 : decode cX11_firstWrong 76 = .ok (.isub, 1) := by decide +kernel
theorem dX11_firstWrong_77 : decode cX11_firstWrong 77 = .ok (.iaload, 1) := by decide +kernel
theorem dX11_firstWrong_78 : decode cX11_firstWrong 78 = .ok (.iaload, 1) := by decide +kernel
theorem dX11_firstWrong_79 : decode cX11_firstWrong 79 = .ok (.aload_n 0, 1) := by decide +kernel
theorem dX11_firstWrong_80 : decode cX11_firstWrong 80 = .ok (.iload 4, 2) := by decide +kernel
theorem dX11_firstWrong_82 : decode cX11_firstWrong 82 = .ok (.invokevirtual 127, 3) := by decide +kernel
theorem dX11_firstWrong_85 : decode cX11_firstWrong 85 = .ok (.invokestatic 102, 3) := by decide +kernel
theorem dX11_firstWrong_88 : decode cX11_firstWrong 88 = .ok (.ifCond .ne 5, 3) := by decide +kernel
theorem dX11_firstWrong_91 : decode cX11_firstWrong 91 = .ok (.iload_n 3, 1) := by decide +kernel
theorem dX11_firstWrong_92 : decode cX11_firstWrong 92 = .ok (.ireturn, 1) := by decide +kernel
theorem dX11_firstWrong_93 : decode cX11_firstWrong 93 = .ok (.iload_n 2, 1) := by decide +kernel
theorem dX11_firstWrong_94 : decode cX11_firstWrong 94 = .ok (.iconst 1, 1) := by decide +kernel
theorem dX11_firstWrong_95 : decode cX11_firstWrong 95 = .ok (.iload 4, 2) := by decide +kernel
theorem dX11_firstWrong_97 : decode cX11_firstWrong 97 = .ok (.ishl, 1) := by decide +kernel
theorem dX11_firstWrong_98 : decode cX11_firstWrong 98 = .ok (.ior, 1) := by decide +kernel
theorem dX11_firstWrong_99 : decode cX11_firstWrong 99 = .ok (.istore_n 2, 1) := by decide +kernel
theorem dX11_firstWrong_100 : decode cX11_firstWrong 100 = .ok (.iinc 3 1, 3) := by decide +kernel
theorem dX11_firstWrong_103 : decode cX11_firstWrong 103 = .ok (.goto (-99), 3) := by decide +kernel
theorem dX11_firstWrong_106 : decode cX11_firstWrong 106 = .ok (.iconst 1, 1) := by decide +kernel
theorem dX11_firstWrong_107 : decode cX11_firstWrong 107 = .ok (.istore_n 3, 1) := by decide +kernel
theorem dX11_firstWrong_108 : decode cX11_firstWrong 108 = .ok (.iload_n 3, 1) := by decide +kernel
theorem dX11_firstWrong_109 : decode cX11_firstWrong 109 = .ok (.iload_n 1, 1) := by decide +kernel
theorem dX11_firstWrong_110 : decode cX11_firstWrong 110 = .ok (.if_icmp .ge 20, 3) := by decide +kernel
theorem dX11_firstWrong_113 : decode cX11_firstWrong 113 = .ok (.aload_n 0, 1) := by decide +kernel
theorem dX11_firstWrong_114 : decode cX11_firstWrong 114 = .ok (.iload_n 3, 1) := by decide +kernel
theorem dX11_firstWrong_115 : decode cX11_firstWrong 115 = .ok (.iload_n 1, 1) := by decide +kernel
theorem dX11_firstWrong_116 : decode cX11_firstWrong 116 = .ok (.invokevirtual 157, 3) := by decide +kernel
theorem dX11_firstWrong_119 : decode cX11_firstWrong 119 = .ok (.ifCond .ne 5, 3) := by decide +kernel
theorem dX11_firstWrong_122 : decode cX11_firstWrong 122 = .ok (.iload_n 3, 1) := by decide +kernel
theorem dX11_firstWrong_123 : decode cX11_firstWrong 123 = .ok (.ireturn, 1) := by decide +kernel
theorem dX11_firstWrong_124 : decode cX11_firstWrong 124 = .ok (.iinc 3 1, 3) := by decide +kernel
theorem dX11_firstWrong_127 : decode cX11_firstWrong 127 = .ok (.goto (-19), 3) := by decide +kernel
theorem dX11_firstWrong_130 : decode cX11_firstWrong 130 = .ok (.bipush (-9), 2) := by decide +kernel
theorem dX11_firstWrong_132 : decode cX11_firstWrong 132 = .ok (.ireturn, 1) := by decide +kernel
set_option maxRecDepth 20000 in
theorem ggX11_isShown_X11_find : GoodIn wsX11_isShown wsX11_find := goodIn_r _ [7, 8, 9, 10, 11, 6, 12, 21, 22, 23, 24, 25, 26, 27, 28, 29, 30, 31, 32, 33, 34, 35, 36, 37, 38, 39, 40, 41, 42] (by decide +kernel) (by decide +kernel)
set_option maxRecDepth 20000 in
theorem gX11_isShown_X11_find : GoodIn wsX11_isShown (wsV RX11 84 RX11 yX11_find wsX11_find) := goodIn_app (goodIn_of _ (by decide +kernel)) ggX11_isShown_X11_find
set_option maxRecDepth 20000 in
theorem ggX11_isShown_X11_has : GoodIn wsX11_isShown wsX11_has := goodIn_r _ [15] (by decide +kernel) (by decide +kernel)
set_option maxRecDepth 20000 in
theorem gX11_isShown_X11_has : GoodIn wsX11_isShown (va_wsS RX11 102 yX11_has wsX11_has) := goodIn_app (goodIn_of _ (by decide +kernel)) ggX11_isShown_X11_has
set_option maxRecDepth 20000 in
theorem ggX11_isShown_X11_lidOf : GoodIn wsX11_isShown wsX11_lidOf := goodIn_r _ [19, 20, 2, 13, 14, 6, 15, 21, 22, 23, 24, 25, 26, 27, 28, 29, 30, 31, 32, 33, 34, 35, 36, 37, 38, 39, 40, 41, 42] (by decide +kernel) (by decide +kernel)
set_option maxRecDepth 20000 in
theorem gX11_isShown_X11_lidOf : GoodIn wsX11_isShown (wsV RX11 127 RX11 yX11_lidOf wsX11_lidOf) := goodIn_app (goodIn_of _ (by decide +kernel)) ggX11_isShown_X11_lidOf
theorem dX11_isShown_0 : decode cX11_isShown 0 = .ok (.aload_n 0, 1) := by decide +kernel
theorem dX11_isShown_1 : decode cX11_isShown 1 = .ok (.getfield 38, 3) := by decide +kernel
theorem dX11_isShown_4 : decode cX11_isShown 4 = .ok (.iload_n 1, 1) := by decide +kernel
theorem dX11_isShown_5 : decode cX11_isShown 5 = .ok (.iaload, 1) := by decide +kernel
theorem dX11_isShown_6 : decode cX11_isShown 6 = .ok (.istore_n 3, 1) := by decide +kernel
theorem dX11_isShown_7 : decode cX11_isShown 7 = .ok (.iconst 0, 1) := by decide +kernel
theorem dX11_isShown_8 : decode cX11_isShown 8 = .ok (.istore 4, 2) := by decide +kernel
theorem dX11_isShown_10 : decode cX11_isShown 10 = .ok (.iconst 0, 1) := by decide +kernel
theorem dX11_isShown_11 : decode cX11_isShown 11 = .ok (.istore 5, 2) := by decide +kernel
theorem dX11_isShown_13 : decode cX11_isShown 13 = .ok (.iconst 0, 1) := by decide +kernel
theorem dX11_isShown_14 : decode cX11_isShown 14 = .ok (.istore 6, 2) := by decide +kernel
theorem dX11_isShown_16 : decode cX11_isShown 16 = .ok (.iload 6, 2) := by decide +kernel
theorem dX11_isShown_18 : decode cX11_isShown 18 = .ok (.iload_n 2, 1) := by decide +kernel
theorem dX11_isShown_19 : decode cX11_isShown 19 = .ok (.if_icmp .ge 99, 3) := by decide +kernel
theorem dX11_isShown_22 : decode cX11_isShown 22 = .ok (.aload_n 0, 1) := by decide +kernel
theorem dX11_isShown_23 : decode cX11_isShown 23 = .ok (.iconst 0, 1) := by decide +kernel
theorem dX11_isShown_24 : decode cX11_isShown 24 = .ok (.aload_n 0, 1) := by decide +kernel
theorem dX11_isShown_25 : decode cX11_isShown 25 = .ok (.getfield 38, 3) := by decide +kernel
theorem dX11_isShown_28 : decode cX11_isShown 28 = .ok (.iload 6, 2) := by decide +kernel
theorem dX11_isShown_30 : decode cX11_isShown 30 = .ok (.iaload, 1) := by decide +kernel
theorem dX11_isShown_31 : decode cX11_isShown 31 = .ok (.iload_n 3, 1) := by decide +kernel
theorem dX11_isShown_32 : decode cX11_isShown 32 = .ok (.invokevirtual 84, 3) := by decide +kernel
theorem dX11_isShown_35 : decode cX11_isShown 35 = .ok (.bipush (-9), 2) := by decide +kernel
theorem dX11_isShown_37 : decode cX11_isShown 37 = .ok (.if_icmp .eq 7, 3) := by decide +kernel
theorem dX11_isShown_40 : decode cX11_isShown 40 = .ok (.iconst 1, 1) := by decide +kernel
theorem dX11_isShown_41 : decode cX11_isShown 41 = .ok (.goto 4, 3) := by decide +kernel
theorem dX11_isShown_44 : decode cX11_isShown 44 = .ok (.iconst 0, 1) := by decide +kernel
theorem dX11_isShown_45 : decode cX11_isShown 45 = .ok (.istore 7, 2) := by decide +kernel
theorem dX11_isShown_47 : decode cX11_isShown 47 = .ok (.iload 4, 2) := by decide +kernel
theorem dX11_isShown_49 : decode cX11_isShown 49 = .ok (.ifCond .ne 14, 3) := by decide +kernel
theorem dX11_isShown_52 : decode cX11_isShown 52 = .ok (.iload 7, 2) := by decide +kernel
theorem dX11_isShown_54 : decode cX11_isShown 54 = .ok (.ifCond .eq 13, 3) := by decide +kernel
theorem dX11_isShown_57 : decode cX11_isShown 57 = .ok (.iload 6, 2) := by decide +kernel
theorem dX11_isShown_59 : decode cX11_isShown 59 = .ok (.iload_n 1, 1) := by decide +kernel
theorem dX11_isShown_60 : decode cX11_isShown 60 = .ok (.if_icmp .ge 7, 3) := by decide +kernel
theorem dX11_isShown_63 : decode cX11_isShown 63 = .ok (.iconst 1, 1) := by decide +kernel
theorem dX11_isShown_64 : decode cX11_isShown 64 = .ok (.goto 4, 3) := by decide +kernel
theorem dX11_isShown_67 : decode cX11_isShown 67 = .ok (.iconst 0, 1) := by decide +kernel
theorem dX11_isShown_68 : decode cX11_isShown 68 = .ok (.istore 4, 2) := by decide +kernel
theorem dX11_isShown_70 : decode cX11_isShown 70 = .ok (.iload 5, 2) := by decide +kernel
theorem dX11_isShown_72 : decode cX11_isShown 72 = .ok (.ifCond .ne 33, 3) := by decide +kernel
theorem dX11_isShown_75 : decode cX11_isShown 75 = .ok (.iload 7, 2) := by decide +kernel
theorem dX11_isShown_77 : decode cX11_isShown 77 = .ok (.ifCond .eq 32, 3) := by decide +kernel
theorem dX11_isShown_80 : decode cX11_isShown 80 = .ok (.iload 6, 2) := by decide +kernel
theorem dX11_isShown_82 : decode cX11_isShown 82 = .ok (.iload_n 1, 1) := by decide +kernel
theorem dX11_isShown_83 : decode cX11_isShown 83 = .ok (.if_icmp .le 26, 3) := by decide +kernel
theorem dX11_isShown_86 : decode cX11_isShown 86 = .ok (.aload_n 0, 1) := by decide +kernel
theorem dX11_isShown_87 : decode cX11_isShown 87 = .ok (.getfield 20, 3) := by decide +kernel
theorem dX11_isShown_90 : decode cX11_isShown 90 = .ok (.aload_n 0, 1) := by decide +kernel
theorem dX11_isShown_91 : decode cX11_isShown 91 = .ok (.getfield 38, 3) := by decide +kernel
theorem dX11_isShown_94 : decode cX11_isShown 94 = .ok (.iload 6, 2) := by decide +kernel
theorem dX11_isShown_96 : decode cX11_isShown 96 = .ok (.iaload, 1) := by decide +kernel
theorem dX11_isShown_97 : decode cX11_isShown 97 = .ok (.iaload, 1) := by decide +kernel
theorem dX11_isShown_98 : decode cX11_isShown 98 = .ok (.iload_n 3, 1) := by decide +kernel
theorem dX11_isShown_99 : decode cX11_isShown 99 = .ok (.invokestatic 102, 3) := by decide +kernel
theorem dX11_isShown_102 : decode cX11_isShown 102 = .ok (.ifCond .ne 7, 3) := by decide +kernel
theorem dX11_isShown_105 : decode cX11_isShown 105 = .ok (.iconst 1, 1) := by decide +kernel
theorem dX11_isShown_106 : decode cX11_isShown 106 = .ok (.goto 4, 3) := by decide +kernel
theorem dX11_isShown_109 : decode cX11_isShown 109 = .ok (.iconst 0, 1) := by decide +kernel
theorem dX11_isShown_110 : decode cX11_isShown 110 = .ok (.istore 5, 2) := by decide +kernel
theorem dX11_isShown_112 : decode cX11_isShown 112 = .ok (.iinc 6 1, 3) := by decide +kernel
theorem dX11_isShown_115 : decode cX11_isShown 115 = .ok (.goto (-99), 3) := by decide +kernel
theorem dX11_isShown_118 : decode cX11_isShown 118 = .ok (.aload_n 0, 1) := by decide +kernel
theorem dX11_isShown_119 : decode cX11_isShown 119 = .ok (.iconst 0, 1) := by decide +kernel
theorem dX11_isShown_120 : decode cX11_isShown 120 = .ok (.aload_n 0, 1) := by decide +kernel
theorem dX11_isShown_121 : decode cX11_isShown 121 = .ok (.iload_n 3, 1) := by decide +kernel
theorem dX11_isShown_122 : decode cX11_isShown 122 = .ok (.invokevirtual 127, 3) := by decide +kernel
theorem dX11_isShown_125 : decode cX11_isShown 125 = .ok (.iload_n 3, 1) := by decide +kernel
theorem dX11_isShown_126 : decode cX11_isShown 126 = .ok (.invokevirtual 84, 3) := by decide +kernel
theorem dX11_isShown_129 : decode cX11_isShown 129 = .ok (.bipush (-9), 2) := by decide +kernel
theorem dX11_isShown_131 : decode cX11_isShown 131 = .ok (.if_icmp .ne 13, 3) := by decide +kernel
theorem dX11_isShown_134 : decode cX11_isShown 134 = .ok (.iload 4, 2) := by decide +kernel
theorem dX11_isShown_136 : decode cX11_isShown 136 = .ok (.ifCond .eq 12, 3) := by decide +kernel
theorem dX11_isShown_139 : decode cX11_isShown 139 = .ok (.iload 5, 2) := by decide +kernel
theorem dX11_isShown_141 : decode cX11_isShown 141 = .ok (.ifCond .eq 7, 3) := by decide +kernel
theorem dX11_isShown_144 : decode cX11_isShown 144 = .ok (.iconst 1, 1) := by decide +kernel
theorem dX11_isShown_145 : decode cX11_isShown 145 = .ok (.goto 4, 3) := by decide +kernel
theorem dX11_isShown_148 : decode cX11_isShown 148 = .ok (.iconst 0, 1) := by decide +kernel
theorem dX11_isShown_149 : decode cX11_isShown 149 = .ok (.ireturn, 1) := by decide +kernel
theorem dX11_nextRow_0 : decode cX11_nextRow 0 = .ok (.iload_n 1, 1) := by decide +kernel
theorem dX11_nextRow_1 : decode cX11_nextRow 1 = .ok (.iconst 2, 1) := by decide +kernel
theorem dX11_nextRow_2 : decode cX11_nextRow 2 = .ok (.isub, 1) := by decide +kernel
theorem dX11_nextRow_3 : decode cX11_nextRow 3 = .ok (.istore_n 2, 1) := by decide +kernel
theorem dX11_nextRow_4 : decode cX11_nextRow 4 = .ok (.iload_n 2, 1) := by decide +kernel
theorem dX11_nextRow_5 : decode cX11_nextRow 5 = .ok (.ifCond .le 26, 3) := by decide +kernel
theorem dX11_nextRow_8 : decode cX11_nextRow 8 = .ok (.aload_n 0, 1) := by decide +kernel
theorem dX11_nextRow_9 : decode cX11_nextRow 9 = .ok (.getfield 38, 3) := by decide +kernel
theorem dX11_nextRow_12 : decode cX11_nextRow 12 = .ok (.iload_n 2, 1) := by decide +kernel
theorem dX11_nextRow_13 : decode cX11_nextRow 13 = .ok (.iaload, 1) := by decide +kernel
theorem dX11_nextRow_14 : decode cX11_nextRow 14 = .ok (.aload_n 0, 1) := by decide +kernel
theorem dX11_nextRow_15 : decode cX11_nextRow 15 = .ok (.getfield 38, 3) := by decide +kernel
theorem dX11_nextRow_18 : decode cX11_nextRow 18 = .ok (.iload_n 2, 1) := by decide +kernel
theorem dX11_nextRow_19 : decode cX11_nextRow 19 = .ok (.iconst 1, 1) := by decide +kernel
theorem dX11_nextRow_20 : decode cX11_nextRow 20 = .ok (.iadd, 1) := by decide +kernel
theorem dX11_nextRow_21 : decode cX11_nextRow 21 = .ok (.iaload, 1) := by decide +kernel
theorem dX11_nextRow_22 : decode cX11_nextRow 22 = .ok (.if_icmp .le 9, 3) := by decide +kernel
theorem dX11_nextRow_25 : decode cX11_nextRow 25 = .ok (.iinc 2 (-1), 3) := by decide +kernel
theorem dX11_nextRow_28 : decode cX11_nextRow 28 = .ok (.goto (-24), 3) := by decide +kernel
theorem dX11_nextRow_31 : decode cX11_nextRow 31 = .ok (.iload_n 2, 1) := by decide +kernel
theorem dX11_nextRow_32 : decode cX11_nextRow 32 = .ok (.iconst 1, 1) := by decide +kernel
theorem dX11_nextRow_33 : decode cX11_nextRow 33 = .ok (.if_icmp .ge 5, 3) := by decide +kernel
theorem dX11_nextRow_36 : decode cX11_nextRow 36 = .ok (.iconst 0, 1) := by decide +kernel
theorem dX11_nextRow_37 : decode cX11_nextRow 37 = .ok (.ireturn, 1) := by decide +kernel
theorem dX11_nextRow_38 : decode cX11_nextRow 38 = .ok (.iload_n 1, 1) := by decide +kernel
theorem dX11_nextRow_39 : decode cX11_nextRow 39 = .ok (.iconst 1, 1) := by decide +kernel
theorem dX11_nextRow_40 : decode cX11_nextRow 40 = .ok (.isub, 1) := by decide +kernel
theorem dX11_nextRow_41 : decode cX11_nextRow 41 = .ok (.istore_n 3, 1) := by decide +kernel
theorem dX11_nextRow_42 : decode cX11_nextRow 42 = .ok (.aload_n 0, 1) := by decide +kernel
theorem dX11_nextRow_43 : decode cX11_nextRow 43 = .ok (.getfield 38, 3) := by decide +kernel
theorem dX11_nextRow_46 : decode cX11_nextRow 46 = .ok (.iload_n 3, 1) := by decide +kernel
theorem dX11_nextRow_47 : decode cX11_nextRow 47 = .ok (.iaload, 1) := by decide +kernel
theorem dX11_nextRow_48 : decode cX11_nextRow 48 = .ok (.aload_n 0, 1) := by decide +kernel
theorem dX11_nextRow_49 : decode cX11_nextRow 49 = .ok (.getfield 38, 3) := by decide +kernel
theorem dX11_nextRow_52 : decode cX11_nextRow 52 = .ok (.iload_n 2, 1) := by decide +kernel
theorem dX11_nextRow_53 : decode cX11_nextRow 53 = .ok (.iaload, 1) := by decide +kernel
theorem dX11_nextRow_54 : decode cX11_nextRow 54 = .ok (.if_icmp .ge 9, 3) := by decide +kernel
theorem dX11_nextRow_57 : decode cX11_nextRow 57 = .ok (.iinc 3 (-1), 3) := by decide +kernel
theorem dX11_nextRow_60 : decode cX11_nextRow 60 = .ok (.goto (-18), 3) := by decide +kernel
theorem dX11_nextRow_63 : decode cX11_nextRow 63 = .ok (.aload_n 0, 1) := by decide +kernel
theorem dX11_nextRow_64 : decode cX11_nextRow 64 = .ok (.getfield 38, 3) := by decide +kernel
theorem dX11_nextRow_67 : decode cX11_nextRow 67 = .ok (.iload_n 2, 1) := by decide +kernel
theorem dX11_nextRow_68 : decode cX11_nextRow 68 = .ok (.iaload, 1) := by decide +kernel
theorem dX11_nextRow_69 : decode cX11_nextRow 69 = .ok (.istore 4, 2) := by decide +kernel
theorem dX11_nextRow_71 : decode cX11_nextRow 71 = .ok (.aload_n 0, 1) := by decide +kernel
theorem dX11_nextRow_72 : decode cX11_nextRow 72 = .ok (.getfield 38, 3) := by decide +kernel
theorem dX11_nextRow_75 : decode cX11_nextRow 75 = .ok (.iload_n 2, 1) := by decide +kernel
theorem dX11_nextRow_76 : decode cX11_nextRow 76 = .ok (.aload_n 0, 1) := by decide +kernel
theorem dX11_nextRow_77 : decode cX11_nextRow 77 = .ok (.getfield 38, 3) := by decide +kernel
theorem dX11_nextRow_80 : decode cX11_nextRow 80 = .ok (.iload_n 3, 1) := by decide +kernel
theorem dX11_nextRow_81 : decode cX11_nextRow 81 = .ok (.iaload, 1) := by decide +kernel
theorem dX11_nextRow_82 : decode cX11_nextRow 82 = .ok (.iastore, 1) := by decide +kernel
theorem dX11_nextRow_83 : decode cX11_nextRow 83 = .ok (.aload_n 0, 1) := by decide +kernel
theorem dX11_nextRow_84 : decode cX11_nextRow 84 = .ok (.getfield 38, 3) := by decide +kernel
theorem dX11_nextRow_87 : decode cX11_nextRow 87 = .ok (.iload_n 3, 1) := by decide +kernel
theorem dX11_nextRow_88 : decode cX11_nextRow 88 = .ok (.iload 4, 2) := by decide +kernel
theorem dX11_nextRow_90 : decode cX11_nextRow 90 = .ok (.iastore, 1) := by decide +kernel
theorem dX11_nextRow_91 : decode cX11_nextRow 91 = .ok (.iload_n 2, 1) := by decide +kernel
theorem dX11_nextRow_92 : decode cX11_nextRow 92 = .ok (.iconst 1, 1) := by decide +kernel
theorem dX11_nextRow_93 : decode cX11_nextRow 93 = .ok (.iadd, 1) := by decide +kernel
theorem dX11_nextRow_94 : decode cX11_nextRow 94 = .ok (.istore 5, 2) := by decide +kernel
theorem dX11_nextRow_96 : decode cX11_nextRow 96 = .ok (.iload_n 1, 1) := by decide +kernel
theorem dX11_nextRow_97 : decode cX11_nextRow 97 = .ok (.iconst 1, 1) := by decide +kernel
theorem dX11_nextRow_98 : decode cX11_nextRow 98 = .ok (.isub, 1) := by decide +kernel
theorem dX11_nextRow_99 : decode cX11_nextRow 99 = .ok (.istore 6, 2) := by decide +kernel
theorem dX11_nextRow_101 : decode cX11_nextRow 101 = .ok (.iload 5, 2) := by decide +kernel
theorem dX11_nextRow_103 : decode cX11_nextRow 103 = .ok (.iload 6, 2) := by decide +kernel
theorem dX11_nextRow_105 : decode cX11_nextRow 105 = .ok (.if_icmp .ge 44, 3) := by decide +kernel
theorem dX11_nextRow_108 : decode cX11_nextRow 108 = .ok (.aload_n 0, 1) := by decide +kernel
theorem dX11_nextRow_109 : decode cX11_nextRow 109 = .ok (.getfield 38, 3) := by decide +kernel
theorem dX11_nextRow_112 : decode cX11_nextRow 112 = .ok (.iload 5, 2) := by decide +kernel
theorem dX11_nextRow_114 : decode cX11_nextRow 114 = .ok (.iaload, 1) := by decide +kernel
theorem dX11_nextRow_115 : decode cX11_nextRow 115 = .ok (.istore 4, 2) := by decide +kernel
theorem dX11_nextRow_117 : decode cX11_nextRow 117 = .ok (.aload_n 0, 1) := by decide +kernel
theorem dX11_nextRow_118 : decode cX11_nextRow 118 = .ok (.getfield 38, 3) := by decide +kernel
theorem dX11_nextRow_121 : decode cX11_nextRow 121 = .ok (.iload 5, 2) := by decide +kernel
theorem dX11_nextRow_123 : decode cX11_nextRow 123 = .ok (.aload_n 0, 1) := by decide +kernel
theorem dX11_nextRow_124 : decode cX11_nextRow 124 = .ok (.getfield 38, 3) := by decide +kernel
theorem dX11_nextRow_127 : decode cX11_nextRow 127 = .ok (.iload 6, 2) := by decide +kernel
theorem dX11_nextRow_129 : decode cX11_nextRow 129 = .ok (.iaload, 1) := by decide +kernel
theorem dX11_nextRow_130 : decode cX11_nextRow 130 = .ok (.iastore, 1) := by decide +kernel
theorem dX11_nextRow_131 : decode cX11_nextRow 131 = .ok (.aload_n 0, 1) := by decide +kernel
theorem dX11_nextRow_132 : decode cX11_nextRow 132 = .ok (.getfield 38, 3) := by decide +kernel
theorem dX11_nextRow_135 : decode cX11_nextRow 135 = .ok (.iload 6, 2) := by decide +kernel
theorem dX11_nextRow_137 : decode cX11_nextRow 137 = .ok (.iload 4, 2) := by decide +kernel
theorem dX11_nextRow_139 : decode cX11_nextRow 139 = .ok (.iastore, 1) := by decide +kernel
theorem dX11_nextRow_140 : decode cX11_nextRow 140 = .ok (.iinc 5 1, 3) := by decide +kernel
theorem dX11_nextRow_143 : decode cX11_nextRow 143 = .ok (.iinc 6 (-1), 3) := by decide +kernel
theorem dX11_nextRow_146 : decode cX11_nextRow 146 = .ok (.goto (-45), 3) := by decide +kernel
theorem dX11_nextRow_149 : decode cX11_nextRow 149 = .ok (.iconst 1, 1) := by decide +kernel
theorem dX11_nextRow_150 : decode cX11_nextRow 150 = .ok (.ireturn, 1) := by decide +kernel
set_option maxRecDepth 20000 in
theorem ggX11_showing_X11_findCovers : GoodIn wsX11_showing wsX11_findCovers := goodIn_r _ [7, 2, 8, 9, 10, 11, 6, 12, 13, 14, 15, 16, 17, 18, 19, 20, 21, 22, 23, 24, 25, 26, 27, 28, 53, 54, 55, 56, 57, 58, 59, 60, 61, 62, 63, 64, 65, 66, 67, 68, 69, 70, 71, 72, 73, 74] (by decide +kernel) (by decide +kernel)
set_option maxRecDepth 20000 in
theorem gX11_showing_X11_findCovers : GoodIn wsX11_showing (wsV RX11 120 RX11 yX11_findCovers wsX11_findCovers) := goodIn_app (goodIn_of _ (by decide +kernel)) ggX11_showing_X11_findCovers
set_option maxRecDepth 20000 in
theorem ggX11_showing_X11_has : GoodIn wsX11_showing wsX11_has := goodIn_r _ [28] (by decide +kernel) (by decide +kernel)
set_option maxRecDepth 20000 in
theorem gX11_showing_X11_has : GoodIn wsX11_showing (va_wsS RX11 102 yX11_has wsX11_has) := goodIn_app (goodIn_of _ (by decide +kernel)) ggX11_showing_X11_has
set_option maxRecDepth 20000 in
theorem ggX11_showing_X11_in : GoodIn wsX11_showing wsX11_in := goodIn_r _ [31] (by decide +kernel) (by decide +kernel)
set_option maxRecDepth 20000 in
theorem gX11_showing_X11_in : GoodIn wsX11_showing (va_wsS RX11 59 yX11_in wsX11_in) := goodIn_app (goodIn_of _ (by decide +kernel)) ggX11_showing_X11_in
set_option maxRecDepth 20000 in
theorem ggX11_showing_X11_firstWrong : GoodIn wsX11_showing wsX11_firstWrong := goodIn_r _ [35, 1, 36, 2, 8, 29, 30, 6, 31, 26, 27, 28, 37, 38, 39, 40, 41, 42, 43, 44, 45, 46, 47, 48, 17, 13, 14, 15, 16, 53, 54, 55, 56, 57, 58, 59, 60, 61, 62, 63, 64, 65, 66, 67, 68, 69, 70, 71, 72, 73, 74] (by decide +kernel) (by decide +kernel)
set_option maxRecDepth 20000 in
theorem gX11_showing_X11_firstWrong : GoodIn wsX11_showing (wsV RX11 160 RX11 yX11_firstWrong wsX11_firstWrong) := goodIn_app (goodIn_of _ (by decide +kernel)) ggX11_showing_X11_firstWrong
set_option maxRecDepth 20000 in
theorem ggX11_showing_X11_nextRow : GoodIn wsX11_showing wsX11_nextRow := goodIn_r _ [52, 1, 53, 54, 55, 56, 57, 58, 59, 60, 61, 62, 63, 64, 65, 66, 67, 68, 69, 70, 71, 72, 73, 74] (by decide +kernel) (by decide +kernel)
set_option maxRecDepth 20000 in
theorem gX11_showing_X11_nextRow : GoodIn wsX11_showing (wsV RX11 163 RX11 yX11_nextRow wsX11_nextRow) := goodIn_app (goodIn_of _ (by decide +kernel)) ggX11_showing_X11_nextRow
theorem dX11_showing_0 : decode cX11_showing 0 = .ok (.aload_n 0, 1) := by decide +kernel
theorem dX11_showing_1 : decode cX11_showing 1 = .ok (.iconst 0, 1) := by decide +kernel
theorem dX11_showing_2 : decode cX11_showing 2 = .ok (.invokevirtual 120, 3) := by decide +kernel
theorem dX11_showing_5 : decode cX11_showing 5 = .ok (.iconst 0, 1) := by decide +kernel
theorem dX11_showing_6 : decode cX11_showing 6 = .ok (.istore_n 2, 1) := by decide +kernel
theorem dX11_showing_7 : decode cX11_showing 7 = .ok (.iconst 0, 1) := by decide +kernel
theorem dX11_showing_8 : decode cX11_showing 8 = .ok (.istore_n 3, 1) := by decide +kernel
theorem dX11_showing_9 : decode cX11_showing 9 = .ok (.iload_n 3, 1) := by decide +kernel
theorem dX11_showing_10 : decode cX11_showing 10 = .ok (.bipush 8, 2) := by decide +kernel
theorem dX11_showing_12 : decode cX11_showing 12 = .ok (.if_icmp .ge 77, 3) := by decide +kernel
theorem dX11_showing_15 : decode cX11_showing 15 = .ok (.aload_n 0, 1) := by decide +kernel
theorem dX11_showing_16 : decode cX11_showing 16 = .ok (.getfield 38, 3) := by decide +kernel
theorem dX11_showing_19 : decode cX11_showing 19 = .ok (.iload_n 2, 1) := by decide +kernel
theorem dX11_showing_20 : decode cX11_showing 20 = .ok (.bipush 8, 2) := by decide +kernel
theorem dX11_showing_22 : decode cX11_showing 22 = .ok (.if_icmp .ge 7, 3) := by decide +kernel
theorem dX11_showing_25 : decode cX11_showing 25 = .ok (.iload_n 2, 1) := by decide +kernel
theorem dX11_showing_26 : decode cX11_showing 26 = .ok (.goto 5, 3) := by decide +kernel
theorem dX11_showing_29 : decode cX11_showing 29 = .ok (.bipush 7, 2) := by decide +kernel
theorem dX11_showing_31 : decode cX11_showing 31 = .ok (.aload_n 0, 1) := by decide +kernel
theorem dX11_showing_32 : decode cX11_showing 32 = .ok (.getfield 110, 3) := by decide +kernel
theorem dX11_showing_35 : decode cX11_showing 35 = .ok (.iload_n 3, 1) := by decide +kernel
theorem dX11_showing_36 : decode cX11_showing 36 = .ok (.invokestatic 102, 3) := by decide +kernel
theorem dX11_showing_39 : decode cX11_showing 39 = .ok (.ifCond .eq 7, 3) := by decide +kernel
theorem dX11_showing_42 : decode cX11_showing 42 = .ok (.iload_n 3, 1) := by decide +kernel
theorem dX11_showing_43 : decode cX11_showing 43 = .ok (.goto 20, 3) := by decide +kernel
theorem dX11_showing_46 : decode cX11_showing 46 = .ok (.aload_n 0, 1) := by decide +kernel
theorem dX11_showing_47 : decode cX11_showing 47 = .ok (.getfield 38, 3) := by decide +kernel
theorem dX11_showing_50 : decode cX11_showing 50 = .ok (.iload_n 2, 1) := by decide +kernel
theorem dX11_showing_51 : decode cX11_showing 51 = .ok (.bipush 8, 2) := by decide +kernel
theorem dX11_showing_53 : decode cX11_showing 53 = .ok (.if_icmp .ge 7, 3) := by decide +kernel
theorem dX11_showing_56 : decode cX11_showing 56 = .ok (.iload_n 2, 1) := by decide +kernel
theorem dX11_showing_57 : decode cX11_showing 57 = .ok (.goto 5, 3) := by decide +kernel
theorem dX11_showing_60 : decode cX11_showing 60 = .ok (.bipush 7, 2) := by decide +kernel
theorem dX11_showing_62 : decode cX11_showing 62 = .ok (.iaload, 1) := by decide +kernel
theorem dX11_showing_63 : decode cX11_showing 63 = .ok (.iastore, 1) := by decide +kernel
theorem dX11_showing_64 : decode cX11_showing 64 = .ok (.iload_n 2, 1) := by decide +kernel
theorem dX11_showing_65 : decode cX11_showing 65 = .ok (.aload_n 0, 1) := by decide +kernel
theorem dX11_showing_66 : decode cX11_showing 66 = .ok (.getfield 110, 3) := by decide +kernel
theorem dX11_showing_69 : decode cX11_showing 69 = .ok (.iload_n 3, 1) := by decide +kernel
theorem dX11_showing_70 : decode cX11_showing 70 = .ok (.invokestatic 102, 3) := by decide +kernel
theorem dX11_showing_73 : decode cX11_showing 73 = .ok (.ifCond .eq 7, 3) := by decide +kernel
theorem dX11_showing_76 : decode cX11_showing 76 = .ok (.iconst 1, 1) := by decide +kernel
theorem dX11_showing_77 : decode cX11_showing 77 = .ok (.goto 4, 3) := by decide +kernel
theorem dX11_showing_80 : decode cX11_showing 80 = .ok (.iconst 0, 1) := by decide +kernel
theorem dX11_showing_81 : decode cX11_showing 81 = .ok (.iadd, 1) := by decide +kernel
theorem dX11_showing_82 : decode cX11_showing 82 = .ok (.istore_n 2, 1) := by decide +kernel
theorem dX11_showing_83 : decode cX11_showing 83 = .ok (.iinc 3 1, 3) := by decide +kernel
theorem dX11_showing_86 : decode cX11_showing 86 = .ok (.goto (-77), 3) := by decide +kernel
theorem dX11_showing_89 : decode cX11_showing 89 = .ok (.iload_n 1, 1) := by decide +kernel
theorem dX11_showing_90 : decode cX11_showing 90 = .ok (.i2l, 1) := by decide +kernel
theorem dX11_showing_91 : decode cX11_showing 91 = .ok (.lconst 0, 1) := by decide +kernel
theorem dX11_showing_92 : decode cX11_showing 92 = .ok (.iload_n 2, 1) := by decide +kernel
theorem dX11_showing_93 : decode cX11_showing 93 = .ok (.iconst 1, 1) := by decide +kernel
theorem dX11_showing_94 : decode cX11_showing 94 = .ok (.isub, 1) := by decide +kernel
theorem dX11_showing_95 : decode cX11_showing 95 = .ok (.i2l, 1) := by decide +kernel
theorem dX11_showing_96 : decode cX11_showing 96 = .ok (.invokestatic 59, 3) := by decide +kernel
theorem dX11_showing_99 : decode cX11_showing 99 = .ok (.ifCond .ne 6, 3) := by decide +kernel
theorem dX11_showing_102 : decode cX11_showing 102 = .ok (.bipush (-9), 2) := by decide +kernel
theorem dX11_showing_104 : decode cX11_showing 104 = .ok (.ireturn, 1) := by decide +kernel
theorem dX11_showing_105 : decode cX11_showing 105 = .ok (.iconst 1, 1) := by decide +kernel
theorem dX11_showing_106 : decode cX11_showing 106 = .ok (.istore_n 3, 1) := by decide +kernel
theorem dX11_showing_107 : decode cX11_showing 107 = .ok (.iload_n 3, 1) := by decide +kernel
theorem dX11_showing_108 : decode cX11_showing 108 = .ok (.ifCond .eq 22, 3) := by decide +kernel
theorem dX11_showing_111 : decode cX11_showing 111 = .ok (.aload_n 0, 1) := by decide +kernel
theorem dX11_showing_112 : decode cX11_showing 112 = .ok (.iload_n 2, 1) := by decide +kernel
theorem dX11_showing_113 : decode cX11_showing 113 = .ok (.invokevirtual 160, 3) := by decide +kernel
theorem dX11_showing_116 : decode cX11_showing 116 = .ok (.bipush (-9), 2) := by decide +kernel
theorem dX11_showing_118 : decode cX11_showing 118 = .ok (.if_icmp .eq 12, 3) := by decide +kernel
theorem dX11_showing_121 : decode cX11_showing 121 = .ok (.aload_n 0, 1) := by decide +kernel
theorem dX11_showing_122 : decode cX11_showing 122 = .ok (.iload_n 2, 1) := by decide +kernel
theorem dX11_showing_123 : decode cX11_showing 123 = .ok (.invokevirtual 163, 3) := by decide +kernel
theorem dX11_showing_126 : decode cX11_showing 126 = .ok (.istore_n 3, 1) := by decide +kernel
theorem dX11_showing_127 : decode cX11_showing 127 = .ok (.goto (-20), 3) := by decide +kernel
theorem dX11_showing_130 : decode cX11_showing 130 = .ok (.iload_n 3, 1) := by decide +kernel
theorem dX11_showing_131 : decode cX11_showing 131 = .ok (.ifCond .eq 12, 3) := by decide +kernel
theorem dX11_showing_134 : decode cX11_showing 134 = .ok (.aload_n 0, 1) := by decide +kernel
theorem dX11_showing_135 : decode cX11_showing 135 = .ok (.getfield 38, 3) := by decide +kernel
theorem dX11_showing_138 : decode cX11_showing 138 = .ok (.iload_n 1, 1) := by decide +kernel
theorem dX11_showing_139 : decode cX11_showing 139 = .ok (.iaload, 1) := by decide +kernel
theorem dX11_showing_140 : decode cX11_showing 140 = .ok (.goto 5, 3) := by decide +kernel
theorem dX11_showing_143 : decode cX11_showing 143 = .ok (.bipush (-9), 2) := by decide +kernel
theorem dX11_showing_145 : decode cX11_showing 145 = .ok (.ireturn, 1) := by decide +kernel
theorem dX11_tenTo_0 : decode cX11_tenTo 0 = .ok (.lconst 1, 1) := by decide +kernel
theorem dX11_tenTo_1 : decode cX11_tenTo 1 = .ok (.lstore_n 1, 1) := by decide +kernel
theorem dX11_tenTo_2 : decode cX11_tenTo 2 = .ok (.iconst 0, 1) := by decide +kernel
theorem dX11_tenTo_3 : decode cX11_tenTo 3 = .ok (.istore_n 3, 1) := by decide +kernel
theorem dX11_tenTo_4 : decode cX11_tenTo 4 = .ok (.iload_n 3, 1) := by decide +kernel
theorem dX11_tenTo_5 : decode cX11_tenTo 5 = .ok (.iload_n 0, 1) := by decide +kernel
theorem dX11_tenTo_6 : decode cX11_tenTo 6 = .ok (.if_icmp .ge 15, 3) := by decide +kernel
theorem dX11_tenTo_9 : decode cX11_tenTo 9 = .ok (.lload_n 1, 1) := by decide +kernel
theorem dX11_tenTo_10 : decode cX11_tenTo 10 = .ok (.ldc2_w 166, 3) := by decide +kernel
theorem dX11_tenTo_13 : decode cX11_tenTo 13 = .ok (.lmul, 1) := by decide +kernel
theorem dX11_tenTo_14 : decode cX11_tenTo 14 = .ok (.lstore_n 1, 1) := by decide +kernel
theorem dX11_tenTo_15 : decode cX11_tenTo 15 = .ok (.iinc 3 1, 3) := by decide +kernel
theorem dX11_tenTo_18 : decode cX11_tenTo 18 = .ok (.goto (-14), 3) := by decide +kernel
theorem dX11_tenTo_21 : decode cX11_tenTo 21 = .ok (.lload_n 1, 1) := by decide +kernel
theorem dX11_tenTo_22 : decode cX11_tenTo 22 = .ok (.lreturn, 1) := by decide +kernel
set_option maxRecDepth 20000 in
theorem ggX11_look_X11_findCovers : GoodIn wsX11_look wsX11_findCovers := goodIn_r _ [8, 1, 9, 10, 11, 12, 7, 13, 14, 15, 16, 17, 18, 19, 20, 21, 22, 23, 24, 25, 26, 27, 28, 29, 56, 57, 58, 59, 60, 61, 62, 63, 64, 65, 66, 67, 68, 69, 70, 71, 72, 73, 74, 75, 76, 77] (by decide +kernel) (by decide +kernel)
set_option maxRecDepth 20000 in
theorem gX11_look_X11_findCovers : GoodIn wsX11_look (wsV RX11 120 RX11 yX11_findCovers wsX11_findCovers) := goodIn_app (goodIn_of _ (by decide +kernel)) ggX11_look_X11_findCovers
set_option maxRecDepth 20000 in
theorem ggX11_look_X11_ones : GoodIn wsX11_look wsX11_ones := goodIn_r _ [32] (by decide +kernel) (by decide +kernel)
set_option maxRecDepth 20000 in
theorem gX11_look_X11_ones : GoodIn wsX11_look (va_wsS RX11 113 yX11_ones wsX11_ones) := goodIn_app (goodIn_of _ (by decide +kernel)) ggX11_look_X11_ones
set_option maxRecDepth 20000 in
theorem ggX11_look_X11_tenTo : GoodIn wsX11_look wsX11_tenTo := goodIn_r _ [35, 3] (by decide +kernel) (by decide +kernel)
set_option maxRecDepth 20000 in
theorem gX11_look_X11_tenTo : GoodIn wsX11_look (va_wsS RX11 168 yX11_tenTo wsX11_tenTo) := goodIn_app (goodIn_of _ (by decide +kernel)) ggX11_look_X11_tenTo
set_option maxRecDepth 20000 in
theorem ggX11_look_X11_in : GoodIn wsX11_look wsX11_in := goodIn_r _ [38] (by decide +kernel) (by decide +kernel)
set_option maxRecDepth 20000 in
theorem gX11_look_X11_in : GoodIn wsX11_look (va_wsS RX11 59 yX11_in wsX11_in) := goodIn_app (goodIn_of _ (by decide +kernel)) ggX11_look_X11_in
set_option maxRecDepth 20000 in
theorem ggX11_look_X11_firstWrong : GoodIn wsX11_look wsX11_firstWrong := goodIn_r _ [42, 2, 43, 1, 9, 36, 37, 7, 38, 27, 28, 29, 44, 45, 46, 47, 48, 49, 50, 51, 52, 53, 54, 55, 18, 14, 15, 16, 17, 56, 57, 58, 59, 60, 61, 62, 63, 64, 65, 66, 67, 68, 69, 70, 71, 72, 73, 74, 75, 76, 77] (by decide +kernel) (by decide +kernel)
set_option maxRecDepth 20000 in
theorem gX11_look_X11_firstWrong : GoodIn wsX11_look (wsV RX11 160 RX11 yX11_firstWrong wsX11_firstWrong) := goodIn_app (goodIn_of _ (by decide +kernel)) ggX11_look_X11_firstWrong
theorem dX11_look_0 : decode cX11_look 0 = .ok (.aload_n 0, 1) := by decide +kernel
theorem dX11_look_1 : decode cX11_look 1 = .ok (.iconst 0, 1) := by decide +kernel
theorem dX11_look_2 : decode cX11_look 2 = .ok (.invokevirtual 120, 3) := by decide +kernel
theorem dX11_look_5 : decode cX11_look 5 = .ok (.aload_n 0, 1) := by decide +kernel
theorem dX11_look_6 : decode cX11_look 6 = .ok (.getfield 110, 3) := by decide +kernel
theorem dX11_look_9 : decode cX11_look 9 = .ok (.invokestatic 113, 3) := by decide +kernel
theorem dX11_look_12 : decode cX11_look 12 = .ok (.istore_n 3, 1) := by decide +kernel
theorem dX11_look_13 : decode cX11_look 13 = .ok (.lload_n 1, 1) := by decide +kernel
theorem dX11_look_14 : decode cX11_look 14 = .ok (.lconst 0, 1) := by decide +kernel
theorem dX11_look_15 : decode cX11_look 15 = .ok (.iload_n 3, 1) := by decide +kernel
theorem dX11_look_16 : decode cX11_look 16 = .ok (.invokestatic 168, 3) := by decide +kernel
theorem dX11_look_19 : decode cX11_look 19 = .ok (.lconst 1, 1) := by decide +kernel
theorem dX11_look_20 : decode cX11_look 20 = .ok (.lsub, 1) := by decide +kernel
theorem dX11_look_21 : decode cX11_look 21 = .ok (.invokestatic 59, 3) := by decide +kernel
theorem dX11_look_24 : decode cX11_look 24 = .ok (.ifCond .ne 6, 3) := by decide +kernel
theorem dX11_look_27 : decode cX11_look 27 = .ok (.bipush (-2), 2) := by decide +kernel
theorem dX11_look_29 : decode cX11_look 29 = .ok (.ireturn, 1) := by decide +kernel
theorem dX11_look_30 : decode cX11_look 30 = .ok (.iconst 0, 1) := by decide +kernel
theorem dX11_look_31 : decode cX11_look 31 = .ok (.istore 4, 2) := by decide +kernel
theorem dX11_look_33 : decode cX11_look 33 = .ok (.iload 4, 2) := by decide +kernel
theorem dX11_look_35 : decode cX11_look 35 = .ok (.iload_n 3, 1) := by decide +kernel
theorem dX11_look_36 : decode cX11_look 36 = .ok (.if_icmp .ge 32, 3) := by decide +kernel
theorem dX11_look_39 : decode cX11_look 39 = .ok (.aload_n 0, 1) := by decide +kernel
theorem dX11_look_40 : decode cX11_look 40 = .ok (.getfield 38, 3) := by decide +kernel
theorem dX11_look_43 : decode cX11_look 43 = .ok (.iload 4, 2) := by decide +kernel
theorem dX11_look_45 : decode cX11_look 45 = .ok (.lload_n 1, 1) := by decide +kernel
theorem dX11_look_46 : decode cX11_look 46 = .ok (.iload_n 3, 1) := by decide +kernel
theorem dX11_look_47 : decode cX11_look 47 = .ok (.iconst 1, 1) := by decide +kernel
theorem dX11_look_48 : decode cX11_look 48 = .ok (.isub, 1) := by decide +kernel
theorem dX11_look_49 : decode cX11_look 49 = .ok (.iload 4, 2) := by decide +kernel
theorem dX11_look_51 : decode cX11_look 51 = .ok (.isub, 1) := by decide +kernel
theorem dX11_look_52 : decode cX11_look 52 = .ok (.invokestatic 168, 3) := by decide +kernel
theorem dX11_look_55 : decode cX11_look 55 = .ok (.ldiv, 1) := by decide +kernel
theorem dX11_look_56 : decode cX11_look 56 = .ok (.ldc2_w 166, 3) := by decide +kernel
theorem dX11_look_59 : decode cX11_look 59 = .ok (.lrem, 1) := by decide +kernel
theorem dX11_look_60 : decode cX11_look 60 = .ok (.l2i, 1) := by decide +kernel
theorem dX11_look_61 : decode cX11_look 61 = .ok (.iastore, 1) := by decide +kernel
theorem dX11_look_62 : decode cX11_look 62 = .ok (.iinc 4 1, 3) := by decide +kernel
theorem dX11_look_65 : decode cX11_look 65 = .ok (.goto (-32), 3) := by decide +kernel
theorem dX11_look_68 : decode cX11_look 68 = .ok (.aload_n 0, 1) := by decide +kernel
theorem dX11_look_69 : decode cX11_look 69 = .ok (.iload_n 3, 1) := by decide +kernel
theorem dX11_look_70 : decode cX11_look 70 = .ok (.invokevirtual 160, 3) := by decide +kernel
theorem dX11_look_73 : decode cX11_look 73 = .ok (.ireturn, 1) := by decide +kernel
set_option maxRecDepth 20000 in
theorem ggX11_tryThing_X11_isKnot : GoodIn wsX11_tryThing wsX11_isKnot := goodIn_r _ [7, 8, 9, 10, 6, 11, 74, 75, 76, 77, 78, 79, 80, 81, 82, 83, 84, 85, 86, 87, 88, 89, 90, 91, 92, 93, 94, 95] (by decide +kernel) (by decide +kernel)
set_option maxRecDepth 20000 in
theorem gX11_tryThing_X11_isKnot : GoodIn wsX11_tryThing (wsV RX11 116 RX11 yX11_isKnot wsX11_isKnot) := goodIn_app (goodIn_of _ (by decide +kernel)) ggX11_tryThing_X11_isKnot
set_option maxRecDepth 20000 in
theorem ggX11_tryThing_X11_find : GoodIn wsX11_tryThing wsX11_find := goodIn_r _ [15, 16, 17, 18, 19, 6, 20, 74, 75, 76, 77, 78, 79, 80, 81, 82, 83, 84, 85, 86, 87, 88, 89, 90, 91, 92, 93, 94, 95] (by decide +kernel) (by decide +kernel)
set_option maxRecDepth 20000 in
theorem gX11_tryThing_X11_find : GoodIn wsX11_tryThing (wsV RX11 84 RX11 yX11_find wsX11_find) := goodIn_app (goodIn_of _ (by decide +kernel)) ggX11_tryThing_X11_find
set_option maxRecDepth 20000 in
theorem ggX11_tryThing_X11_many : GoodIn wsX11_tryThing wsX11_many := goodIn_r _ [20, 16, 74, 75, 76, 77, 78, 79, 80, 81, 82, 83, 84, 85, 86, 87, 88, 89, 90, 91, 92, 93, 94, 95] (by decide +kernel) (by decide +kernel)
set_option maxRecDepth 20000 in
theorem gX11_tryThing_X11_many : GoodIn wsX11_tryThing (wsV RX11 66 RX11 yX11_many wsX11_many) := goodIn_app (goodIn_of _ (by decide +kernel)) ggX11_tryThing_X11_many
set_option maxRecDepth 20000 in
theorem ggX11_tryThing_X11_insertOn : GoodIn wsX11_tryThing wsX11_insertOn := goodIn_r _ [24, 16, 74, 75, 76, 77, 78, 79, 80, 81, 82, 83, 84, 85, 86, 87, 88, 89, 90, 91, 92, 93, 94, 95] (by decide +kernel) (by decide +kernel)
set_option maxRecDepth 20000 in
theorem gX11_tryThing_X11_insertOn : GoodIn wsX11_tryThing (wsV RX11 88 RX11 yX11_insertOn wsX11_insertOn) := goodIn_app (goodIn_of _ (by decide +kernel)) ggX11_tryThing_X11_insertOn
set_option maxRecDepth 20000 in
theorem ggX11_tryThing_X11_deleteOn : GoodIn wsX11_tryThing wsX11_deleteOn := goodIn_r _ [28, 16, 74, 75, 76, 77, 78, 79, 80, 81, 82, 83, 84, 85, 86, 87, 88, 89, 90, 91, 92, 93, 94, 95] (by decide +kernel) (by decide +kernel)
set_option maxRecDepth 20000 in
theorem gX11_tryThing_X11_deleteOn : GoodIn wsX11_tryThing (wsV RX11 148 RX11 yX11_deleteOn wsX11_deleteOn) := goodIn_app (goodIn_of _ (by decide +kernel)) ggX11_tryThing_X11_deleteOn
set_option maxRecDepth 20000 in
theorem ggX11_tryThing_X11_findCovers : GoodIn wsX11_tryThing wsX11_findCovers := goodIn_r _ [32, 2, 1, 33, 34, 35, 6, 36, 17, 18, 19, 20, 16, 37, 38, 39, 40, 41, 42, 43, 44, 45, 46, 47, 74, 75, 76, 77, 78, 79, 80, 81, 82, 83, 84, 85, 86, 87, 88, 89, 90, 91, 92, 93, 94, 95] (by decide +kernel) (by decide +kernel)
set_option maxRecDepth 20000 in
theorem gX11_tryThing_X11_findCovers : GoodIn wsX11_tryThing (wsV RX11 120 RX11 yX11_findCovers wsX11_findCovers) := goodIn_app (goodIn_of _ (by decide +kernel)) ggX11_tryThing_X11_findCovers
set_option maxRecDepth 20000 in
theorem ggX11_tryThing_X11_walk : GoodIn wsX11_tryThing wsX11_walk := goodIn_r _ [51, 52, 53, 54, 17, 18, 19, 6, 20, 16, 41, 42, 43, 44, 37, 38, 39, 40, 74, 75, 76, 77, 78, 79, 80, 81, 82, 83, 84, 85, 86, 87, 88, 89, 90, 91, 92, 93, 94, 95] (by decide +kernel) (by decide +kernel)
set_option maxRecDepth 20000 in
theorem gX11_tryThing_X11_walk : GoodIn wsX11_tryThing (wsV RX11 124 RX11 yX11_walk wsX11_walk) := goodIn_app (goodIn_of _ (by decide +kernel)) ggX11_tryThing_X11_walk
set_option maxRecDepth 20000 in
theorem ggX11_tryThing_X11_has : GoodIn wsX11_tryThing wsX11_has := goodIn_r _ [47] (by decide +kernel) (by decide +kernel)
set_option maxRecDepth 20000 in
theorem gX11_tryThing_X11_has : GoodIn wsX11_tryThing (va_wsS RX11 102 yX11_has wsX11_has) := goodIn_app (goodIn_of _ (by decide +kernel)) ggX11_tryThing_X11_has
set_option maxRecDepth 20000 in
theorem ggX11_tryThing_X11_lidOf : GoodIn wsX11_tryThing wsX11_lidOf := goodIn_r _ [58, 2, 1, 45, 46, 6, 47, 74, 75, 76, 77, 78, 79, 80, 81, 82, 83, 84, 85, 86, 87, 88, 89, 90, 91, 92, 93, 94, 95] (by decide +kernel) (by decide +kernel)
set_option maxRecDepth 20000 in
theorem gX11_tryThing_X11_lidOf : GoodIn wsX11_tryThing (wsV RX11 127 RX11 yX11_lidOf wsX11_lidOf) := goodIn_app (goodIn_of _ (by decide +kernel)) ggX11_tryThing_X11_lidOf
set_option maxRecDepth 20000 in
theorem ggX11_tryThing_X11_depthOf : GoodIn wsX11_tryThing wsX11_depthOf := goodIn_r _ [62, 2, 1, 45, 46, 6, 47, 63, 64, 65, 74, 75, 76, 77, 78, 79, 80, 81, 82, 83, 84, 85, 86, 87, 88, 89, 90, 91, 92, 93, 94, 95] (by decide +kernel) (by decide +kernel)
set_option maxRecDepth 20000 in
theorem gX11_tryThing_X11_depthOf : GoodIn wsX11_tryThing (wsV RX11 130 RX11 yX11_depthOf wsX11_depthOf) := goodIn_app (goodIn_of _ (by decide +kernel)) ggX11_tryThing_X11_depthOf
set_option maxRecDepth 20000 in
theorem ggX11_tryThing_X11_halfOf : GoodIn wsX11_tryThing wsX11_halfOf := goodIn_r _ [69, 52, 17, 18, 19, 6, 20, 16, 37, 38, 39, 40, 41, 42, 43, 44, 45, 46, 47, 74, 75, 76, 77, 78, 79, 80, 81, 82, 83, 84, 85, 86, 87, 88, 89, 90, 91, 92, 93, 94, 95] (by decide +kernel) (by decide +kernel)
set_option maxRecDepth 20000 in
theorem gX11_tryThing_X11_halfOf : GoodIn wsX11_tryThing (wsV RX11 133 RX11 yX11_halfOf wsX11_halfOf) := goodIn_app (goodIn_of _ (by decide +kernel)) ggX11_tryThing_X11_halfOf
set_option maxRecDepth 20000 in
theorem ggX11_tryThing_X11_rimOf : GoodIn wsX11_tryThing wsX11_rimOf := goodIn_r _ [73, 1, 17, 18, 19, 6, 20, 16, 41, 42, 43, 44, 37, 38, 39, 40, 45, 46, 47, 74, 75, 76, 77, 78, 79, 80, 81, 82, 83, 84, 85, 86, 87, 88, 89, 90, 91, 92, 93, 94, 95] (by decide +kernel) (by decide +kernel)
set_option maxRecDepth 20000 in
theorem gX11_tryThing_X11_rimOf : GoodIn wsX11_tryThing (wsV RX11 139 RX11 yX11_rimOf wsX11_rimOf) := goodIn_app (goodIn_of _ (by decide +kernel)) ggX11_tryThing_X11_rimOf
set_option maxRecDepth 20000 in
theorem ggX11_tryThing_X11_ones : GoodIn wsX11_tryThing wsX11_ones := goodIn_r _ [65] (by decide +kernel) (by decide +kernel)
set_option maxRecDepth 20000 in
theorem gX11_tryThing_X11_ones : GoodIn wsX11_tryThing (va_wsS RX11 113 yX11_ones wsX11_ones) := goodIn_app (goodIn_of _ (by decide +kernel)) ggX11_tryThing_X11_ones
theorem dX11_tryThing_0 : decode cX11_tryThing 0 = .ok (.aload_n 0, 1) := by decide +kernel
theorem dX11_tryThing_1 : decode cX11_tryThing 1 = .ok (.iload_n 2, 1) := by decide +kernel
theorem dX11_tryThing_2 : decode cX11_tryThing 2 = .ok (.invokevirtual 116, 3) := by decide +kernel
theorem dX11_tryThing_5 : decode cX11_tryThing 5 = .ok (.ifCond .eq 15, 3) := by decide +kernel
theorem dX11_tryThing_8 : decode cX11_tryThing 8 = .ok (.aload_n 0, 1) := by decide +kernel
theorem dX11_tryThing_9 : decode cX11_tryThing 9 = .ok (.iload_n 3, 1) := by decide +kernel
theorem dX11_tryThing_10 : decode cX11_tryThing 10 = .ok (.invokevirtual 116, 3) := by decide +kernel
theorem dX11_tryThing_13 : decode cX11_tryThing 13 = .ok (.ifCond .eq 7, 3) := by decide +kernel
theorem dX11_tryThing_16 : decode cX11_tryThing 16 = .ok (.iconst 1, 1) := by decide +kernel
theorem dX11_tryThing_17 : decode cX11_tryThing 17 = .ok (.goto 4, 3) := by decide +kernel
theorem dX11_tryThing_20 : decode cX11_tryThing 20 = .ok (.iconst 0, 1) := by decide +kernel
theorem dX11_tryThing_21 : decode cX11_tryThing 21 = .ok (.istore 4, 2) := by decide +kernel
theorem dX11_tryThing_23 : decode cX11_tryThing 23 = .ok (.iload_n 1, 1) := by decide +kernel
theorem dX11_tryThing_24 : decode cX11_tryThing 24 = .ok (.iconst 1, 1) := by decide +kernel
theorem dX11_tryThing_25 : decode cX11_tryThing 25 = .ok (.if_icmp .ne 57, 3) := by decide +kernel
theorem dX11_tryThing_28 : decode cX11_tryThing 28 = .ok (.iload 4, 2) := by decide +kernel
theorem dX11_tryThing_30 : decode cX11_tryThing 30 = .ok (.ifCond .eq 34, 3) := by decide +kernel
theorem dX11_tryThing_33 : decode cX11_tryThing 33 = .ok (.iload_n 2, 1) := by decide +kernel
theorem dX11_tryThing_34 : decode cX11_tryThing 34 = .ok (.iload_n 3, 1) := by decide +kernel
theorem dX11_tryThing_35 : decode cX11_tryThing 35 = .ok (.if_icmp .eq 29, 3) := by decide +kernel
theorem dX11_tryThing_38 : decode cX11_tryThing 38 = .ok (.aload_n 0, 1) := by decide +kernel
theorem dX11_tryThing_39 : decode cX11_tryThing 39 = .ok (.iconst 1, 1) := by decide +kernel
theorem dX11_tryThing_40 : decode cX11_tryThing 40 = .ok (.iload_n 2, 1) := by decide +kernel
theorem dX11_tryThing_41 : decode cX11_tryThing 41 = .ok (.iload_n 3, 1) := by decide +kernel
theorem dX11_tryThing_42 : decode cX11_tryThing 42 = .ok (.invokevirtual 84, 3) := by decide +kernel
theorem dX11_tryThing_45 : decode cX11_tryThing 45 = .ok (.bipush (-9), 2) := by decide +kernel
theorem dX11_tryThing_47 : decode cX11_tryThing 47 = .ok (.if_icmp .ne 17, 3) := by decide +kernel
theorem dX11_tryThing_50 : decode cX11_tryThing 50 = .ok (.aload_n 0, 1) := by decide +kernel
theorem dX11_tryThing_51 : decode cX11_tryThing 51 = .ok (.iconst 1, 1) := by decide +kernel
theorem dX11_tryThing_52 : decode cX11_tryThing 52 = .ok (.invokevirtual 66, 3) := by decide +kernel
theorem dX11_tryThing_55 : decode cX11_tryThing 55 = .ok (.bipush 24, 2) := by decide +kernel
theorem dX11_tryThing_57 : decode cX11_tryThing 57 = .ok (.if_icmp .ge 7, 3) := by decide +kernel
theorem dX11_tryThing_60 : decode cX11_tryThing 60 = .ok (.iconst 1, 1) := by decide +kernel
theorem dX11_tryThing_61 : decode cX11_tryThing 61 = .ok (.goto 4, 3) := by decide +kernel
theorem dX11_tryThing_64 : decode cX11_tryThing 64 = .ok (.iconst 0, 1) := by decide +kernel
theorem dX11_tryThing_65 : decode cX11_tryThing 65 = .ok (.istore 5, 2) := by decide +kernel
theorem dX11_tryThing_67 : decode cX11_tryThing 67 = .ok (.iload 5, 2) := by decide +kernel
theorem dX11_tryThing_69 : decode cX11_tryThing 69 = .ok (.ifCond .eq 10, 3) := by decide +kernel
theorem dX11_tryThing_72 : decode cX11_tryThing 72 = .ok (.aload_n 0, 1) := by decide +kernel
theorem dX11_tryThing_73 : decode cX11_tryThing 73 = .ok (.iconst 1, 1) := by decide +kernel
theorem dX11_tryThing_74 : decode cX11_tryThing 74 = .ok (.iload_n 2, 1) := by decide +kernel
theorem dX11_tryThing_75 : decode cX11_tryThing 75 = .ok (.iload_n 3, 1) := by decide +kernel
theorem dX11_tryThing_76 : decode cX11_tryThing 76 = .ok (.invokevirtual 88, 3) := by decide +kernel
theorem dX11_tryThing_79 : decode cX11_tryThing 79 = .ok (.iload 5, 2) := by decide +kernel
theorem dX11_tryThing_81 : decode cX11_tryThing 81 = .ok (.ireturn, 1) := by decide +kernel
theorem dX11_tryThing_82 : decode cX11_tryThing 82 = .ok (.iload_n 1, 1) := by decide +kernel
theorem dX11_tryThing_83 : decode cX11_tryThing 83 = .ok (.iconst 2, 1) := by decide +kernel
theorem dX11_tryThing_84 : decode cX11_tryThing 84 = .ok (.if_icmp .ne 47, 3) := by decide +kernel
theorem dX11_tryThing_87 : decode cX11_tryThing 87 = .ok (.iload 4, 2) := by decide +kernel
theorem dX11_tryThing_89 : decode cX11_tryThing 89 = .ok (.ifCond .eq 19, 3) := by decide +kernel
theorem dX11_tryThing_92 : decode cX11_tryThing 92 = .ok (.aload_n 0, 1) := by decide +kernel
theorem dX11_tryThing_93 : decode cX11_tryThing 93 = .ok (.iconst 1, 1) := by decide +kernel
theorem dX11_tryThing_94 : decode cX11_tryThing 94 = .ok (.iload_n 2, 1) := by decide +kernel
theorem dX11_tryThing_95 : decode cX11_tryThing 95 = .ok (.iload_n 3, 1) := by decide +kernel
theorem dX11_tryThing_96 : decode cX11_tryThing 96 = .ok (.invokevirtual 84, 3) := by decide +kernel
theorem dX11_tryThing_99 : decode cX11_tryThing 99 = .ok (.bipush (-9), 2) := by decide +kernel
theorem dX11_tryThing_101 : decode cX11_tryThing 101 = .ok (.if_icmp .eq 7, 3) := by decide +kernel
theorem dX11_tryThing_104 : decode cX11_tryThing 104 = .ok (.iconst 1, 1) := by decide +kernel
theorem dX11_tryThing_105 : decode cX11_tryThing 105 = .ok (.goto 4, 3) := by decide +kernel
theorem dX11_tryThing_108 : decode cX11_tryThing 108 = .ok (.iconst 0, 1) := by decide +kernel
theorem dX11_tryThing_109 : decode cX11_tryThing 109 = .ok (.istore 5, 2) := by decide +kernel
theorem dX11_tryThing_111 : decode cX11_tryThing 111 = .ok (.iload 5, 2) := by decide +kernel
theorem dX11_tryThing_113 : decode cX11_tryThing 113 = .ok (.ifCond .eq 15, 3) := by decide +kernel
theorem dX11_tryThing_116 : decode cX11_tryThing 116 = .ok (.aload_n 0, 1) := by decide +kernel
theorem dX11_tryThing_117 : decode cX11_tryThing 117 = .ok (.iconst 1, 1) := by decide +kernel
theorem dX11_tryThing_118 : decode cX11_tryThing 118 = .ok (.aload_n 0, 1) := by decide +kernel
theorem dX11_tryThing_119 : decode cX11_tryThing 119 = .ok (.iconst 1, 1) := by decide +kernel
theorem dX11_tryThing_120 : decode cX11_tryThing 120 = .ok (.iload_n 2, 1) := by decide +kernel
theorem dX11_tryThing_121 : decode cX11_tryThing 121 = .ok (.iload_n 3, 1) := by decide +kernel
theorem dX11_tryThing_122 : decode cX11_tryThing 122 = .ok (.invokevirtual 84, 3) := by decide +kernel
theorem dX11_tryThing_125 : decode cX11_tryThing 125 = .ok (.invokevirtual 148, 3) := by decide +kernel
theorem dX11_tryThing_128 : decode cX11_tryThing 128 = .ok (.iload 5, 2) := by decide +kernel
theorem dX11_tryThing_130 : decode cX11_tryThing 130 = .ok (.ireturn, 1) := by decide +kernel
theorem dX11_tryThing_131 : decode cX11_tryThing 131 = .ok (.aload_n 0, 1) := by decide +kernel
theorem dX11_tryThing_132 : decode cX11_tryThing 132 = .ok (.iconst 1, 1) := by decide +kernel
theorem dX11_tryThing_133 : decode cX11_tryThing 133 = .ok (.invokevirtual 120, 3) := by decide +kernel
theorem dX11_tryThing_136 : decode cX11_tryThing 136 = .ok (.aload_n 0, 1) := by decide +kernel
theorem dX11_tryThing_137 : decode cX11_tryThing 137 = .ok (.iconst 1, 1) := by decide +kernel
theorem dX11_tryThing_138 : decode cX11_tryThing 138 = .ok (.invokevirtual 124, 3) := by decide +kernel
theorem dX11_tryThing_141 : decode cX11_tryThing 141 = .ok (.iload_n 1, 1) := by decide +kernel
theorem dX11_tryThing_142 : decode cX11_tryThing 142 = .ok (.tableswitch 182 3 8 #[38, 62, 82, 105, 126, 161], 38) := by decide +kernel
theorem dX11_tryThing_180 : decode cX11_tryThing 180 = .ok (.iload 4, 2) := by decide +kernel
theorem dX11_tryThing_182 : decode cX11_tryThing 182 = .ok (.ifCond .eq 20, 3) := by decide +kernel
theorem dX11_tryThing_185 : decode cX11_tryThing 185 = .ok (.aload_n 0, 1) := by decide +kernel
theorem dX11_tryThing_186 : decode cX11_tryThing 186 = .ok (.getfield 20, 3) := by decide +kernel
theorem dX11_tryThing_189 : decode cX11_tryThing 189 = .ok (.iload_n 3, 1) := by decide +kernel
theorem dX11_tryThing_190 : decode cX11_tryThing 190 = .ok (.iaload, 1) := by decide +kernel
theorem dX11_tryThing_191 : decode cX11_tryThing 191 = .ok (.iload_n 2, 1) := by decide +kernel
theorem dX11_tryThing_192 : decode cX11_tryThing 192 = .ok (.invokestatic 102, 3) := by decide +kernel
theorem dX11_tryThing_195 : decode cX11_tryThing 195 = .ok (.ifCond .eq 7, 3) := by decide +kernel
theorem dX11_tryThing_198 : decode cX11_tryThing 198 = .ok (.iconst 1, 1) := by decide +kernel
theorem dX11_tryThing_199 : decode cX11_tryThing 199 = .ok (.goto 4, 3) := by decide +kernel
theorem dX11_tryThing_202 : decode cX11_tryThing 202 = .ok (.iconst 0, 1) := by decide +kernel
theorem dX11_tryThing_203 : decode cX11_tryThing 203 = .ok (.ireturn, 1) := by decide +kernel
theorem dX11_tryThing_204 : decode cX11_tryThing 204 = .ok (.iload 4, 2) := by decide +kernel
theorem dX11_tryThing_206 : decode cX11_tryThing 206 = .ok (.ifCond .eq 16, 3) := by decide +kernel
theorem dX11_tryThing_209 : decode cX11_tryThing 209 = .ok (.aload_n 0, 1) := by decide +kernel
theorem dX11_tryThing_210 : decode cX11_tryThing 210 = .ok (.iload_n 3, 1) := by decide +kernel
theorem dX11_tryThing_211 : decode cX11_tryThing 211 = .ok (.invokevirtual 127, 3) := by decide +kernel
theorem dX11_tryThing_214 : decode cX11_tryThing 214 = .ok (.iload_n 2, 1) := by decide +kernel
theorem dX11_tryThing_215 : decode cX11_tryThing 215 = .ok (.if_icmp .ne 7, 3) := by decide +kernel
theorem dX11_tryThing_218 : decode cX11_tryThing 218 = .ok (.iconst 1, 1) := by decide +kernel
theorem dX11_tryThing_219 : decode cX11_tryThing 219 = .ok (.goto 4, 3) := by decide +kernel
theorem dX11_tryThing_222 : decode cX11_tryThing 222 = .ok (.iconst 0, 1) := by decide +kernel
theorem dX11_tryThing_223 : decode cX11_tryThing 223 = .ok (.ireturn, 1) := by decide +kernel
theorem dX11_tryThing_224 : decode cX11_tryThing 224 = .ok (.aload_n 0, 1) := by decide +kernel
theorem dX11_tryThing_225 : decode cX11_tryThing 225 = .ok (.iload_n 2, 1) := by decide +kernel
theorem dX11_tryThing_226 : decode cX11_tryThing 226 = .ok (.invokevirtual 116, 3) := by decide +kernel
theorem dX11_tryThing_229 : decode cX11_tryThing 229 = .ok (.ifCond .eq 16, 3) := by decide +kernel
theorem dX11_tryThing_232 : decode cX11_tryThing 232 = .ok (.aload_n 0, 1) := by decide +kernel
theorem dX11_tryThing_233 : decode cX11_tryThing 233 = .ok (.iload_n 2, 1) := by decide +kernel
theorem dX11_tryThing_234 : decode cX11_tryThing 234 = .ok (.invokevirtual 130, 3) := by decide +kernel
theorem dX11_tryThing_237 : decode cX11_tryThing 237 = .ok (.iload_n 3, 1) := by decide +kernel
theorem dX11_tryThing_238 : decode cX11_tryThing 238 = .ok (.if_icmp .ne 7, 3) := by decide +kernel
theorem dX11_tryThing_241 : decode cX11_tryThing 241 = .ok (.iconst 1, 1) := by decide +kernel
theorem dX11_tryThing_242 : decode cX11_tryThing 242 = .ok (.goto 4, 3) := by decide +kernel
theorem dX11_tryThing_245 : decode cX11_tryThing 245 = .ok (.iconst 0, 1) := by decide +kernel
theorem dX11_tryThing_246 : decode cX11_tryThing 246 = .ok (.ireturn, 1) := by decide +kernel
theorem dX11_tryThing_247 : decode cX11_tryThing 247 = .ok (.iload 4, 2) := by decide +kernel
theorem dX11_tryThing_249 : decode cX11_tryThing 249 = .ok (.ifCond .eq 17, 3) := by decide +kernel
theorem dX11_tryThing_252 : decode cX11_tryThing 252 = .ok (.aload_n 0, 1) := by decide +kernel
theorem dX11_tryThing_253 : decode cX11_tryThing 253 = .ok (.iconst 1, 1) := by decide +kernel
theorem dX11_tryThing_254 : decode cX11_tryThing 254 = .ok (.iload_n 3, 1) := by decide +kernel
theorem dX11_tryThing_255 : decode cX11_tryThing 255 = .ok (.invokevirtual 133, 3) := by decide +kernel
theorem dX11_tryThing_258 : decode cX11_tryThing 258 = .ok (.iload_n 2, 1) := by decide +kernel
theorem dX11_tryThing_259 : decode cX11_tryThing 259 = .ok (.if_icmp .ne 7, 3) := by decide +kernel
theorem dX11_tryThing_262 : decode cX11_tryThing 262 = .ok (.iconst 1, 1) := by decide +kernel
theorem dX11_tryThing_263 : decode cX11_tryThing 263 = .ok (.goto 4, 3) := by decide +kernel
theorem dX11_tryThing_266 : decode cX11_tryThing 266 = .ok (.iconst 0, 1) := by decide +kernel
theorem dX11_tryThing_267 : decode cX11_tryThing 267 = .ok (.ireturn, 1) := by decide +kernel
theorem dX11_tryThing_268 : decode cX11_tryThing 268 = .ok (.iload 4, 2) := by decide +kernel
theorem dX11_tryThing_270 : decode cX11_tryThing 270 = .ok (.ifCond .eq 31, 3) := by decide +kernel
theorem dX11_tryThing_273 : decode cX11_tryThing 273 = .ok (.aload_n 0, 1) := by decide +kernel
theorem dX11_tryThing_274 : decode cX11_tryThing 274 = .ok (.getfield 110, 3) := by decide +kernel
theorem dX11_tryThing_277 : decode cX11_tryThing 277 = .ok (.iload_n 2, 1) := by decide +kernel
theorem dX11_tryThing_278 : decode cX11_tryThing 278 = .ok (.invokestatic 102, 3) := by decide +kernel
theorem dX11_tryThing_281 : decode cX11_tryThing 281 = .ok (.ifCond .eq 20, 3) := by decide +kernel
theorem dX11_tryThing_284 : decode cX11_tryThing 284 = .ok (.aload_n 0, 1) := by decide +kernel
theorem dX11_tryThing_285 : decode cX11_tryThing 285 = .ok (.iconst 1, 1) := by decide +kernel
theorem dX11_tryThing_286 : decode cX11_tryThing 286 = .ok (.iload_n 2, 1) := by decide +kernel
theorem dX11_tryThing_287 : decode cX11_tryThing 287 = .ok (.invokevirtual 139, 3) := by decide +kernel
theorem dX11_tryThing_290 : decode cX11_tryThing 290 = .ok (.iload_n 3, 1) := by decide +kernel
theorem dX11_tryThing_291 : decode cX11_tryThing 291 = .ok (.invokestatic 102, 3) := by decide +kernel
theorem dX11_tryThing_294 : decode cX11_tryThing 294 = .ok (.ifCond .eq 7, 3) := by decide +kernel
theorem dX11_tryThing_297 : decode cX11_tryThing 297 = .ok (.iconst 1, 1) := by decide +kernel
theorem dX11_tryThing_298 : decode cX11_tryThing 298 = .ok (.goto 4, 3) := by decide +kernel
theorem dX11_tryThing_301 : decode cX11_tryThing 301 = .ok (.iconst 0, 1) := by decide +kernel
theorem dX11_tryThing_302 : decode cX11_tryThing 302 = .ok (.ireturn, 1) := by decide +kernel
theorem dX11_tryThing_303 : decode cX11_tryThing 303 = .ok (.iload_n 2, 1) := by decide +kernel
theorem dX11_tryThing_304 : decode cX11_tryThing 304 = .ok (.ifCond .ne 18, 3) := by decide +kernel
theorem dX11_tryThing_307 : decode cX11_tryThing 307 = .ok (.aload_n 0, 1) := by decide +kernel
theorem dX11_tryThing_308 : decode cX11_tryThing 308 = .ok (.getfield 110, 3) := by decide +kernel
theorem dX11_tryThing_311 : decode cX11_tryThing 311 = .ok (.invokestatic 113, 3) := by decide +kernel
theorem dX11_tryThing_314 : decode cX11_tryThing 314 = .ok (.iload_n 3, 1) := by decide +kernel
theorem dX11_tryThing_315 : decode cX11_tryThing 315 = .ok (.if_icmp .lt 7, 3) := by decide +kernel
theorem dX11_tryThing_318 : decode cX11_tryThing 318 = .ok (.iconst 1, 1) := by decide +kernel
theorem dX11_tryThing_319 : decode cX11_tryThing 319 = .ok (.goto 4, 3) := by decide +kernel
theorem dX11_tryThing_322 : decode cX11_tryThing 322 = .ok (.iconst 0, 1) := by decide +kernel
theorem dX11_tryThing_323 : decode cX11_tryThing 323 = .ok (.ireturn, 1) := by decide +kernel
theorem dX11_tryThing_324 : decode cX11_tryThing 324 = .ok (.iconst 0, 1) := by decide +kernel
theorem dX11_tryThing_325 : decode cX11_tryThing 325 = .ok (.ireturn, 1) := by decide +kernel
set_option maxRecDepth 20000 in
theorem ggX11_judge_X11_in : GoodIn wsX11_judge wsX11_in := goodIn_r _ [6] (by decide +kernel) (by decide +kernel)
set_option maxRecDepth 20000 in
theorem gX11_judge_X11_in : GoodIn wsX11_judge (va_wsS RX11 59 yX11_in wsX11_in) := goodIn_app (goodIn_of _ (by decide +kernel)) ggX11_judge_X11_in
set_option maxRecDepth 20000 in
theorem ggX11_judge_X11_tenTo : GoodIn wsX11_judge wsX11_tenTo := goodIn_r _ [9, 10] (by decide +kernel) (by decide +kernel)
set_option maxRecDepth 20000 in
theorem gX11_judge_X11_tenTo : GoodIn wsX11_judge (va_wsS RX11 168 yX11_tenTo wsX11_tenTo) := goodIn_app (goodIn_of _ (by decide +kernel)) ggX11_judge_X11_tenTo
set_option maxRecDepth 20000 in
theorem ggX11_judge_X11_layTrial : GoodIn wsX11_judge wsX11_layTrial := goodIn_r _ [14, 15, 88, 89, 90, 91, 92, 93, 94, 95, 96, 97, 98, 99, 100, 101, 102, 103, 104, 105, 106, 107, 108, 109] (by decide +kernel) (by decide +kernel)
set_option maxRecDepth 20000 in
theorem gX11_judge_X11_layTrial : GoodIn wsX11_judge (wsV RX11 152 RX11 yX11_layTrial wsX11_layTrial) := goodIn_app (goodIn_of _ (by decide +kernel)) ggX11_judge_X11_layTrial
set_option maxRecDepth 20000 in
theorem ggX11_judge_X11_tryThing : GoodIn wsX11_judge wsX11_tryThing := goodIn_r _ [19, 20, 21, 22, 23, 24, 5, 25, 26, 3, 4, 6, 27, 28, 29, 30, 15, 31, 32, 33, 34, 35, 36, 37, 38, 39, 40, 41, 42, 43, 44, 45, 46, 47, 48, 49, 50, 51, 52, 53, 54, 55, 56, 57, 58, 59, 60, 61, 62, 63, 64, 65, 66, 67, 68, 69, 70, 71, 72, 73, 74, 75, 76, 77, 78, 79, 80, 81, 82, 83, 84, 85, 86, 87, 88, 89, 90, 91, 92, 93, 94, 95, 96, 97, 98, 99, 100, 101, 102, 103, 104, 105, 106, 107, 108, 109] (by decide +kernel) (by decide +kernel)
set_option maxRecDepth 20000 in
theorem gX11_judge_X11_tryThing : GoodIn wsX11_judge (wsV RX11 176 RX11 yX11_tryThing wsX11_tryThing) := goodIn_app (goodIn_of _ (by decide +kernel)) ggX11_judge_X11_tryThing
theorem dX11_judge_0 : decode cX11_judge 0 = .ok (.iload_n 1, 1) := by decide +kernel
theorem dX11_judge_1 : decode cX11_judge 1 = .ok (.i2l, 1) := by decide +kernel
theorem dX11_judge_2 : decode cX11_judge 2 = .ok (.lconst 1, 1) := by decide +kernel
theorem dX11_judge_3 : decode cX11_judge 3 = .ok (.ldc2_w 172, 3) := by decide +kernel
theorem dX11_judge_6 : decode cX11_judge 6 = .ok (.invokestatic 59, 3) := by decide +kernel
theorem dX11_judge_9 : decode cX11_judge 9 = .ok (.ifCond .eq 19, 3) := by decide +kernel
theorem dX11_judge_12 : decode cX11_judge 12 = .ok (.lload_n 2, 1) := by decide +kernel
theorem dX11_judge_13 : decode cX11_judge 13 = .ok (.lconst 0, 1) := by decide +kernel
theorem dX11_judge_14 : decode cX11_judge 14 = .ok (.iconst 3, 1) := by decide +kernel
theorem dX11_judge_15 : decode cX11_judge 15 = .ok (.iload_n 1, 1) := by decide +kernel
theorem dX11_judge_16 : decode cX11_judge 16 = .ok (.imul, 1) := by decide +kernel
theorem dX11_judge_17 : decode cX11_judge 17 = .ok (.invokestatic 168, 3) := by decide +kernel
theorem dX11_judge_20 : decode cX11_judge 20 = .ok (.lconst 1, 1) := by decide +kernel
theorem dX11_judge_21 : decode cX11_judge 21 = .ok (.lsub, 1) := by decide +kernel
theorem dX11_judge_22 : decode cX11_judge 22 = .ok (.invokestatic 59, 3) := by decide +kernel
theorem dX11_judge_25 : decode cX11_judge 25 = .ok (.ifCond .ne 6, 3) := by decide +kernel
theorem dX11_judge_28 : decode cX11_judge 28 = .ok (.bipush (-2), 2) := by decide +kernel
theorem dX11_judge_30 : decode cX11_judge 30 = .ok (.ireturn, 1) := by decide +kernel
theorem dX11_judge_31 : decode cX11_judge 31 = .ok (.aload_n 0, 1) := by decide +kernel
theorem dX11_judge_32 : decode cX11_judge 32 = .ok (.invokevirtual 152, 3) := by decide +kernel
theorem dX11_judge_35 : decode cX11_judge 35 = .ok (.iconst 0, 1) := by decide +kernel
theorem dX11_judge_36 : decode cX11_judge 36 = .ok (.istore 4, 2) := by decide +kernel
theorem dX11_judge_38 : decode cX11_judge 38 = .ok (.iload 4, 2) := by decide +kernel
theorem dX11_judge_40 : decode cX11_judge 40 = .ok (.iload_n 1, 1) := by decide +kernel
theorem dX11_judge_41 : decode cX11_judge 41 = .ok (.if_icmp .ge 57, 3) := by decide +kernel
theorem dX11_judge_44 : decode cX11_judge 44 = .ok (.lload_n 2, 1) := by decide +kernel
theorem dX11_judge_45 : decode cX11_judge 45 = .ok (.iconst 3, 1) := by decide +kernel
theorem dX11_judge_46 : decode cX11_judge 46 = .ok (.iload_n 1, 1) := by decide +kernel
theorem dX11_judge_47 : decode cX11_judge 47 = .ok (.iconst 1, 1) := by decide +kernel
theorem dX11_judge_48 : decode cX11_judge 48 = .ok (.isub, 1) := by decide +kernel
theorem dX11_judge_49 : decode cX11_judge 49 = .ok (.iload 4, 2) := by decide +kernel
theorem dX11_judge_51 : decode cX11_judge 51 = .ok (.isub, 1) := by decide +kernel
theorem dX11_judge_52 : decode cX11_judge 52 = .ok (.imul, 1) := by decide +kernel
theorem dX11_judge_53 : decode cX11_judge 53 = .ok (.invokestatic 168, 3) := by decide +kernel
theorem dX11_judge_56 : decode cX11_judge 56 = .ok (.ldiv, 1) := by decide +kernel
theorem dX11_judge_57 : decode cX11_judge 57 = .ok (.ldc2_w 174, 3) := by decide +kernel
theorem dX11_judge_60 : decode cX11_judge 60 = .ok (.lrem, 1) := by decide +kernel
theorem dX11_judge_61 : decode cX11_judge 61 = .ok (.l2i, 1) := by decide +kernel
theorem dX11_judge_62 : decode cX11_judge 62 = .ok (.istore 5, 2) := by decide +kernel
theorem dX11_judge_64 : decode cX11_judge 64 = .ok (.aload_n 0, 1) := by decide +kernel
theorem dX11_judge_65 : decode cX11_judge 65 = .ok (.iload 5, 2) := by decide +kernel
theorem dX11_judge_67 : decode cX11_judge 67 = .ok (.bipush 100, 2) := by decide +kernel
theorem dX11_judge_69 : decode cX11_judge 69 = .ok (.idiv, 1) := by decide +kernel
theorem dX11_judge_70 : decode cX11_judge 70 = .ok (.iload 5, 2) := by decide +kernel
theorem dX11_judge_72 : decode cX11_judge 72 = .ok (.bipush 10, 2) := by decide +kernel
theorem dX11_judge_74 : decode cX11_judge 74 = .ok (.idiv, 1) := by decide +kernel
theorem dX11_judge_75 : decode cX11_judge 75 = .ok (.bipush 10, 2) := by decide +kernel
theorem dX11_judge_77 : decode cX11_judge 77 = .ok (.irem, 1) := by decide +kernel
theorem dX11_judge_78 : decode cX11_judge 78 = .ok (.iload 5, 2) := by decide +kernel
theorem dX11_judge_80 : decode cX11_judge 80 = .ok (.bipush 10, 2) := by decide +kernel
theorem dX11_judge_82 : decode cX11_judge 82 = .ok (.irem, 1) := by decide +kernel
theorem dX11_judge_83 : decode cX11_judge 83 = .ok (.invokevirtual 176, 3) := by decide +kernel
theorem dX11_judge_86 : decode cX11_judge 86 = .ok (.ifCond .ne 6, 3) := by decide +kernel
theorem dX11_judge_89 : decode cX11_judge 89 = .ok (.iload 4, 2) := by decide +kernel
theorem dX11_judge_91 : decode cX11_judge 91 = .ok (.ireturn, 1) := by decide +kernel
theorem dX11_judge_92 : decode cX11_judge 92 = .ok (.iinc 4 1, 3) := by decide +kernel
theorem dX11_judge_95 : decode cX11_judge 95 = .ok (.goto (-57), 3) := by decide +kernel
theorem dX11_judge_98 : decode cX11_judge 98 = .ok (.bipush (-9), 2) := by decide +kernel
theorem dX11_judge_100 : decode cX11_judge 100 = .ok (.ireturn, 1) := by decide +kernel
set_option maxRecDepth 20000 in
theorem ggX11_see_X11_in : GoodIn wsX11_see wsX11_in := goodIn_r _ [9] (by decide +kernel) (by decide +kernel)
set_option maxRecDepth 20000 in
theorem gX11_see_X11_in : GoodIn wsX11_see (va_wsS RX11 59 yX11_in wsX11_in) := goodIn_app (goodIn_of _ (by decide +kernel)) ggX11_see_X11_in
theorem dX11_see_0 : decode cX11_see 0 = .ok (.iload_n 1, 1) := by decide +kernel
theorem dX11_see_1 : decode cX11_see 1 = .ok (.i2l, 1) := by decide +kernel
theorem dX11_see_2 : decode cX11_see 2 = .ok (.lconst 0, 1) := by decide +kernel
theorem dX11_see_3 : decode cX11_see 3 = .ok (.ldc2_w 155, 3) := by decide +kernel
theorem dX11_see_6 : decode cX11_see 6 = .ok (.invokestatic 59, 3) := by decide +kernel
theorem dX11_see_9 : decode cX11_see 9 = .ok (.ifCond .eq 25, 3) := by decide +kernel
theorem dX11_see_12 : decode cX11_see 12 = .ok (.iload_n 2, 1) := by decide +kernel
theorem dX11_see_13 : decode cX11_see 13 = .ok (.i2l, 1) := by decide +kernel
theorem dX11_see_14 : decode cX11_see 14 = .ok (.lconst 0, 1) := by decide +kernel
theorem dX11_see_15 : decode cX11_see 15 = .ok (.ldc2_w 155, 3) := by decide +kernel
theorem dX11_see_18 : decode cX11_see 18 = .ok (.invokestatic 59, 3) := by decide +kernel
theorem dX11_see_21 : decode cX11_see 21 = .ok (.ifCond .eq 13, 3) := by decide +kernel
theorem dX11_see_24 : decode cX11_see 24 = .ok (.iload_n 3, 1) := by decide +kernel
theorem dX11_see_25 : decode cX11_see 25 = .ok (.i2l, 1) := by decide +kernel
theorem dX11_see_26 : decode cX11_see 26 = .ok (.lconst 0, 1) := by decide +kernel
theorem dX11_see_27 : decode cX11_see 27 = .ok (.lconst 1, 1) := by decide +kernel
theorem dX11_see_28 : decode cX11_see 28 = .ok (.invokestatic 59, 3) := by decide +kernel
theorem dX11_see_31 : decode cX11_see 31 = .ok (.ifCond .ne 6, 3) := by decide +kernel
theorem dX11_see_34 : decode cX11_see 34 = .ok (.bipush (-2), 2) := by decide +kernel
theorem dX11_see_36 : decode cX11_see 36 = .ok (.ireturn, 1) := by decide +kernel
theorem dX11_see_37 : decode cX11_see 37 = .ok (.aload_n 0, 1) := by decide +kernel
theorem dX11_see_38 : decode cX11_see 38 = .ok (.getfield 180, 3) := by decide +kernel
theorem dX11_see_41 : decode cX11_see 41 = .ok (.bipush 6, 2) := by decide +kernel
theorem dX11_see_43 : decode cX11_see 43 = .ok (.if_icmp .ne 6, 3) := by decide +kernel
theorem dX11_see_46 : decode cX11_see 46 = .ok (.bipush (-4), 2) := by decide +kernel
theorem dX11_see_48 : decode cX11_see 48 = .ok (.ireturn, 1) := by decide +kernel
theorem dX11_see_49 : decode cX11_see 49 = .ok (.aload_n 0, 1) := by decide +kernel
theorem dX11_see_50 : decode cX11_see 50 = .ok (.getfield 41, 3) := by decide +kernel
theorem dX11_see_53 : decode cX11_see 53 = .ok (.aload_n 0, 1) := by decide +kernel
theorem dX11_see_54 : decode cX11_see 54 = .ok (.getfield 180, 3) := by decide +kernel
theorem dX11_see_57 : decode cX11_see 57 = .ok (.iload_n 1, 1) := by decide +kernel
theorem dX11_see_58 : decode cX11_see 58 = .ok (.iastore, 1) := by decide +kernel
theorem dX11_see_59 : decode cX11_see 59 = .ok (.aload_n 0, 1) := by decide +kernel
theorem dX11_see_60 : decode cX11_see 60 = .ok (.getfield 44, 3) := by decide +kernel
theorem dX11_see_63 : decode cX11_see 63 = .ok (.aload_n 0, 1) := by decide +kernel
theorem dX11_see_64 : decode cX11_see 64 = .ok (.getfield 180, 3) := by decide +kernel
theorem dX11_see_67 : decode cX11_see 67 = .ok (.iload_n 2, 1) := by decide +kernel
theorem dX11_see_68 : decode cX11_see 68 = .ok (.iastore, 1) := by decide +kernel
theorem dX11_see_69 : decode cX11_see 69 = .ok (.aload_n 0, 1) := by decide +kernel
theorem dX11_see_70 : decode cX11_see 70 = .ok (.getfield 47, 3) := by decide +kernel
theorem dX11_see_73 : decode cX11_see 73 = .ok (.aload_n 0, 1) := by decide +kernel
theorem dX11_see_74 : decode cX11_see 74 = .ok (.getfield 180, 3) := by decide +kernel
theorem dX11_see_77 : decode cX11_see 77 = .ok (.iload_n 3, 1) := by decide +kernel
theorem dX11_see_78 : decode cX11_see 78 = .ok (.iastore, 1) := by decide +kernel
theorem dX11_see_79 : decode cX11_see 79 = .ok (.aload_n 0, 1) := by decide +kernel
theorem dX11_see_80 : decode cX11_see 80 = .ok (.dup, 1) := by decide +kernel
theorem dX11_see_81 : decode cX11_see 81 = .ok (.getfield 180, 3) := by decide +kernel
theorem dX11_see_84 : decode cX11_see 84 = .ok (.iconst 1, 1) := by decide +kernel
theorem dX11_see_85 : decode cX11_see 85 = .ok (.iadd, 1) := by decide +kernel
theorem dX11_see_86 : decode cX11_see 86 = .ok (.putfield 180, 3) := by decide +kernel
theorem dX11_see_89 : decode cX11_see 89 = .ok (.aload_n 0, 1) := by decide +kernel
theorem dX11_see_90 : decode cX11_see 90 = .ok (.getfield 180, 3) := by decide +kernel
theorem dX11_see_93 : decode cX11_see 93 = .ok (.ireturn, 1) := by decide +kernel
theorem dX11_unsee_0 : decode cX11_unsee 0 = .ok (.aload_n 0, 1) := by decide +kernel
theorem dX11_unsee_1 : decode cX11_unsee 1 = .ok (.getfield 180, 3) := by decide +kernel
theorem dX11_unsee_4 : decode cX11_unsee 4 = .ok (.istore_n 1, 1) := by decide +kernel
theorem dX11_unsee_5 : decode cX11_unsee 5 = .ok (.aload_n 0, 1) := by decide +kernel
theorem dX11_unsee_6 : decode cX11_unsee 6 = .ok (.iconst 0, 1) := by decide +kernel
theorem dX11_unsee_7 : decode cX11_unsee 7 = .ok (.putfield 180, 3) := by decide +kernel
theorem dX11_unsee_10 : decode cX11_unsee 10 = .ok (.iload_n 1, 1) := by decide +kernel
theorem dX11_unsee_11 : decode cX11_unsee 11 = .ok (.ireturn, 1) := by decide +kernel
set_option maxRecDepth 20000 in
theorem ggX11_mayBe_X11_layTrial : GoodIn wsX11_mayBe wsX11_layTrial := goodIn_r _ [9, 10, 44, 45, 46, 47, 48, 49, 50, 51, 52, 53, 54, 55, 56, 57, 58, 59, 60, 61, 62, 63, 64, 65] (by decide +kernel) (by decide +kernel)
set_option maxRecDepth 20000 in
theorem gX11_mayBe_X11_layTrial : GoodIn wsX11_mayBe (wsV RX11 152 RX11 yX11_layTrial wsX11_layTrial) := goodIn_app (goodIn_of _ (by decide +kernel)) ggX11_mayBe_X11_layTrial
set_option maxRecDepth 20000 in
theorem ggX11_mayBe_X11_insertOn : GoodIn wsX11_mayBe wsX11_insertOn := goodIn_r _ [14, 10, 44, 45, 46, 47, 48, 49, 50, 51, 52, 53, 54, 55, 56, 57, 58, 59, 60, 61, 62, 63, 64, 65] (by decide +kernel) (by decide +kernel)
set_option maxRecDepth 20000 in
theorem gX11_mayBe_X11_insertOn : GoodIn wsX11_mayBe (wsV RX11 88 RX11 yX11_insertOn wsX11_insertOn) := goodIn_app (goodIn_of _ (by decide +kernel)) ggX11_mayBe_X11_insertOn
set_option maxRecDepth 20000 in
theorem ggX11_mayBe_X11_findCovers : GoodIn wsX11_mayBe wsX11_findCovers := goodIn_r _ [18, 19, 20, 21, 22, 23, 8, 24, 25, 26, 27, 28, 10, 29, 30, 31, 32, 33, 34, 35, 36, 37, 38, 39, 44, 45, 46, 47, 48, 49, 50, 51, 52, 53, 54, 55, 56, 57, 58, 59, 60, 61, 62, 63, 64, 65] (by decide +kernel) (by decide +kernel)
set_option maxRecDepth 20000 in
theorem gX11_mayBe_X11_findCovers : GoodIn wsX11_mayBe (wsV RX11 120 RX11 yX11_findCovers wsX11_findCovers) := goodIn_app (goodIn_of _ (by decide +kernel)) ggX11_mayBe_X11_findCovers
set_option maxRecDepth 20000 in
theorem ggX11_mayBe_X11_lidOf : GoodIn wsX11_mayBe wsX11_lidOf := goodIn_r _ [43, 19, 20, 37, 38, 8, 39, 44, 45, 46, 47, 48, 49, 50, 51, 52, 53, 54, 55, 56, 57, 58, 59, 60, 61, 62, 63, 64, 65] (by decide +kernel) (by decide +kernel)
set_option maxRecDepth 20000 in
theorem gX11_mayBe_X11_lidOf : GoodIn wsX11_mayBe (wsV RX11 127 RX11 yX11_lidOf wsX11_lidOf) := goodIn_app (goodIn_of _ (by decide +kernel)) ggX11_mayBe_X11_lidOf
theorem dX11_mayBe_0 : decode cX11_mayBe 0 = .ok (.aload_n 0, 1) := by decide +kernel
theorem dX11_mayBe_1 : decode cX11_mayBe 1 = .ok (.invokevirtual 152, 3) := by decide +kernel
theorem dX11_mayBe_4 : decode cX11_mayBe 4 = .ok (.aload_n 0, 1) := by decide +kernel
theorem dX11_mayBe_5 : decode cX11_mayBe 5 = .ok (.iconst 1, 1) := by decide +kernel
theorem dX11_mayBe_6 : decode cX11_mayBe 6 = .ok (.iload_n 1, 1) := by decide +kernel
theorem dX11_mayBe_7 : decode cX11_mayBe 7 = .ok (.iload_n 2, 1) := by decide +kernel
theorem dX11_mayBe_8 : decode cX11_mayBe 8 = .ok (.invokevirtual 88, 3) := by decide +kernel
theorem dX11_mayBe_11 : decode cX11_mayBe 11 = .ok (.aload_n 0, 1) := by decide +kernel
theorem dX11_mayBe_12 : decode cX11_mayBe 12 = .ok (.iconst 1, 1) := by decide +kernel
theorem dX11_mayBe_13 : decode cX11_mayBe 13 = .ok (.invokevirtual 120, 3) := by decide +kernel
theorem dX11_mayBe_16 : decode cX11_mayBe 16 = .ok (.iconst 1, 1) := by decide +kernel
theorem dX11_mayBe_17 : decode cX11_mayBe 17 = .ok (.istore_n 3, 1) := by decide +kernel
theorem dX11_mayBe_18 : decode cX11_mayBe 18 = .ok (.iconst 0, 1) := by decide +kernel
theorem dX11_mayBe_19 : decode cX11_mayBe 19 = .ok (.istore 4, 2) := by decide +kernel
theorem dX11_mayBe_21 : decode cX11_mayBe 21 = .ok (.iload 4, 2) := by decide +kernel
theorem dX11_mayBe_23 : decode cX11_mayBe 23 = .ok (.aload_n 0, 1) := by decide +kernel
theorem dX11_mayBe_24 : decode cX11_mayBe 24 = .ok (.getfield 180, 3) := by decide +kernel
theorem dX11_mayBe_27 : decode cX11_mayBe 27 = .ok (.if_icmp .ge 64, 3) := by decide +kernel
theorem dX11_mayBe_30 : decode cX11_mayBe 30 = .ok (.iload_n 3, 1) := by decide +kernel
theorem dX11_mayBe_31 : decode cX11_mayBe 31 = .ok (.ifCond .eq 52, 3) := by decide +kernel
theorem dX11_mayBe_34 : decode cX11_mayBe 34 = .ok (.aload_n 0, 1) := by decide +kernel
theorem dX11_mayBe_35 : decode cX11_mayBe 35 = .ok (.aload_n 0, 1) := by decide +kernel
theorem dX11_mayBe_36 : decode cX11_mayBe 36 = .ok (.getfield 41, 3) := by decide +kernel
theorem dX11_mayBe_39 : decode cX11_mayBe 39 = .ok (.iload 4, 2) := by decide +kernel
theorem dX11_mayBe_41 : decode cX11_mayBe 41 = .ok (.iaload, 1) := by decide +kernel
theorem dX11_mayBe_42 : decode cX11_mayBe 42 = .ok (.invokevirtual 127, 3) := by decide +kernel
theorem dX11_mayBe_45 : decode cX11_mayBe 45 = .ok (.aload_n 0, 1) := by decide +kernel
theorem dX11_mayBe_46 : decode cX11_mayBe 46 = .ok (.getfield 44, 3) := by decide +kernel
theorem dX11_mayBe_49 : decode cX11_mayBe 49 = .ok (.iload 4, 2) := by decide +kernel
theorem dX11_mayBe_51 : decode cX11_mayBe 51 = .ok (.iaload, 1) := by decide +kernel
theorem dX11_mayBe_52 : decode cX11_mayBe 52 = .ok (.if_icmp .ne 7, 3) := by decide +kernel
theorem dX11_mayBe_55 : decode cX11_mayBe 55 = .ok (.iconst 1, 1) := by decide +kernel
theorem dX11_mayBe_56 : decode cX11_mayBe 56 = .ok (.goto 4, 3) := by decide +kernel
theorem dX11_mayBe_59 : decode cX11_mayBe 59 = .ok (.iconst 0, 1) := by decide +kernel
theorem dX11_mayBe_60 : decode cX11_mayBe 60 = .ok (.aload_n 0, 1) := by decide +kernel
theorem dX11_mayBe_61 : decode cX11_mayBe 61 = .ok (.getfield 47, 3) := by decide +kernel
theorem dX11_mayBe_64 : decode cX11_mayBe 64 = .ok (.iload 4, 2) := by decide +kernel
theorem dX11_mayBe_66 : decode cX11_mayBe 66 = .ok (.iaload, 1) := by decide +kernel
theorem dX11_mayBe_67 : decode cX11_mayBe 67 = .ok (.iconst 1, 1) := by decide +kernel
theorem dX11_mayBe_68 : decode cX11_mayBe 68 = .ok (.if_icmp .ne 7, 3) := by decide +kernel
theorem dX11_mayBe_71 : decode cX11_mayBe 71 = .ok (.iconst 1, 1) := by decide +kernel
theorem dX11_mayBe_72 : decode cX11_mayBe 72 = .ok (.goto 4, 3) := by decide +kernel
theorem dX11_mayBe_75 : decode cX11_mayBe 75 = .ok (.iconst 0, 1) := by decide +kernel
theorem dX11_mayBe_76 : decode cX11_mayBe 76 = .ok (.if_icmp .ne 7, 3) := by decide +kernel
theorem dX11_mayBe_79 : decode cX11_mayBe 79 = .ok (.iconst 1, 1) := by decide +kernel
theorem dX11_mayBe_80 : decode cX11_mayBe 80 = .ok (.goto 4, 3) := by decide +kernel
theorem dX11_mayBe_83 : decode cX11_mayBe 83 = .ok (.iconst 0, 1) := by decide +kernel
theorem dX11_mayBe_84 : decode cX11_mayBe 84 = .ok (.istore_n 3, 1) := by decide +kernel
theorem dX11_mayBe_85 : decode cX11_mayBe 85 = .ok (.iinc 4 1, 3) := by decide +kernel
theorem dX11_mayBe_88 : decode cX11_mayBe 88 = .ok (.goto (-67), 3) := by decide +kernel
theorem dX11_mayBe_91 : decode cX11_mayBe 91 = .ok (.iload_n 3, 1) := by decide +kernel
theorem dX11_mayBe_92 : decode cX11_mayBe 92 = .ok (.ireturn, 1) := by decide +kernel
set_option maxRecDepth 20000 in
theorem ggX11_missing_X11_in : GoodIn wsX11_missing wsX11_in := goodIn_r _ [4] (by decide +kernel) (by decide +kernel)
set_option maxRecDepth 20000 in
theorem gX11_missing_X11_in : GoodIn wsX11_missing (va_wsS RX11 59 yX11_in wsX11_in) := goodIn_app (goodIn_of _ (by decide +kernel)) ggX11_missing_X11_in
set_option maxRecDepth 20000 in
theorem ggX11_missing_X11_many : GoodIn wsX11_missing wsX11_many := goodIn_r _ [8, 9, 60, 61, 62, 63, 64, 65, 66, 67, 68, 69, 70, 71, 72, 73, 74, 75, 76, 77, 78, 79, 80, 81] (by decide +kernel) (by decide +kernel)
set_option maxRecDepth 20000 in
theorem gX11_missing_X11_many : GoodIn wsX11_missing (wsV RX11 66 RX11 yX11_many wsX11_many) := goodIn_app (goodIn_of _ (by decide +kernel)) ggX11_missing_X11_many
set_option maxRecDepth 20000 in
theorem ggX11_missing_X11_isKnot : GoodIn wsX11_missing wsX11_isKnot := goodIn_r _ [13, 14, 1, 2, 3, 4, 60, 61, 62, 63, 64, 65, 66, 67, 68, 69, 70, 71, 72, 73, 74, 75, 76, 77, 78, 79, 80, 81] (by decide +kernel) (by decide +kernel)
set_option maxRecDepth 20000 in
theorem gX11_missing_X11_isKnot : GoodIn wsX11_missing (wsV RX11 116 RX11 yX11_isKnot wsX11_isKnot) := goodIn_app (goodIn_of _ (by decide +kernel)) ggX11_missing_X11_isKnot
set_option maxRecDepth 20000 in
theorem ggX11_missing_X11_find : GoodIn wsX11_missing wsX11_find := goodIn_r _ [18, 9, 5, 6, 7, 3, 8, 60, 61, 62, 63, 64, 65, 66, 67, 68, 69, 70, 71, 72, 73, 74, 75, 76, 77, 78, 79, 80, 81] (by decide +kernel) (by decide +kernel)
set_option maxRecDepth 20000 in
theorem gX11_missing_X11_find : GoodIn wsX11_missing (wsV RX11 84 RX11 yX11_find wsX11_find) := goodIn_app (goodIn_of _ (by decide +kernel)) ggX11_missing_X11_find
set_option maxRecDepth 20000 in
theorem ggX11_missing_X11_mayBe : GoodIn wsX11_missing wsX11_mayBe := goodIn_r _ [22, 23, 24, 25, 26, 27, 28, 29, 3, 30, 9, 31, 32, 33, 34, 35, 36, 37, 38, 39, 40, 41, 42, 43, 44, 5, 6, 7, 8, 45, 46, 47, 48, 49, 50, 51, 52, 53, 54, 55, 56, 57, 58, 59, 60, 61, 62, 63, 64, 65, 66, 67, 68, 69, 70, 71, 72, 73, 74, 75, 76, 77, 78, 79, 80, 81] (by decide +kernel) (by decide +kernel)
set_option maxRecDepth 20000 in
theorem gX11_missing_X11_mayBe : GoodIn wsX11_missing (wsV RX11 183 RX11 yX11_mayBe wsX11_mayBe) := goodIn_app (goodIn_of _ (by decide +kernel)) ggX11_missing_X11_mayBe
theorem dX11_missing_0 : decode cX11_missing 0 = .ok (.iload_n 1, 1) := by decide +kernel
theorem dX11_missing_1 : decode cX11_missing 1 = .ok (.i2l, 1) := by decide +kernel
theorem dX11_missing_2 : decode cX11_missing 2 = .ok (.lconst 0, 1) := by decide +kernel
theorem dX11_missing_3 : decode cX11_missing 3 = .ok (.lconst 1, 1) := by decide +kernel
theorem dX11_missing_4 : decode cX11_missing 4 = .ok (.invokestatic 59, 3) := by decide +kernel
theorem dX11_missing_7 : decode cX11_missing 7 = .ok (.ifCond .ne 6, 3) := by decide +kernel
theorem dX11_missing_10 : decode cX11_missing 10 = .ok (.bipush (-2), 2) := by decide +kernel
theorem dX11_missing_12 : decode cX11_missing 12 = .ok (.ireturn, 1) := by decide +kernel
theorem dX11_missing_13 : decode cX11_missing 13 = .ok (.aload_n 0, 1) := by decide +kernel
theorem dX11_missing_14 : decode cX11_missing 14 = .ok (.iconst 0, 1) := by decide +kernel
theorem dX11_missing_15 : decode cX11_missing 15 = .ok (.invokevirtual 66, 3) := by decide +kernel
theorem dX11_missing_18 : decode cX11_missing 18 = .ok (.bipush 24, 2) := by decide +kernel
theorem dX11_missing_20 : decode cX11_missing 20 = .ok (.if_icmp .ne 6, 3) := by decide +kernel
theorem dX11_missing_23 : decode cX11_missing 23 = .ok (.bipush (-4), 2) := by decide +kernel
theorem dX11_missing_25 : decode cX11_missing 25 = .ok (.ireturn, 1) := by decide +kernel
theorem dX11_missing_26 : decode cX11_missing 26 = .ok (.iconst 0, 1) := by decide +kernel
theorem dX11_missing_27 : decode cX11_missing 27 = .ok (.istore_n 2, 1) := by decide +kernel
theorem dX11_missing_28 : decode cX11_missing 28 = .ok (.bipush (-9), 2) := by decide +kernel
theorem dX11_missing_30 : decode cX11_missing 30 = .ok (.istore_n 3, 1) := by decide +kernel
theorem dX11_missing_31 : decode cX11_missing 31 = .ok (.iconst 0, 1) := by decide +kernel
theorem dX11_missing_32 : decode cX11_missing 32 = .ok (.istore 4, 2) := by decide +kernel
theorem dX11_missing_34 : decode cX11_missing 34 = .ok (.iload 4, 2) := by decide +kernel
theorem dX11_missing_36 : decode cX11_missing 36 = .ok (.bipush 80, 2) := by decide +kernel
theorem dX11_missing_38 : decode cX11_missing 38 = .ok (.if_icmp .ge 109, 3) := by decide +kernel
theorem dX11_missing_41 : decode cX11_missing 41 = .ok (.iload 4, 2) := by decide +kernel
theorem dX11_missing_43 : decode cX11_missing 43 = .ok (.bipush 10, 2) := by decide +kernel
theorem dX11_missing_45 : decode cX11_missing 45 = .ok (.idiv, 1) := by decide +kernel
theorem dX11_missing_46 : decode cX11_missing 46 = .ok (.iload 4, 2) := by decide +kernel
theorem dX11_missing_48 : decode cX11_missing 48 = .ok (.bipush 10, 2) := by decide +kernel
theorem dX11_missing_50 : decode cX11_missing 50 = .ok (.irem, 1) := by decide +kernel
theorem dX11_missing_51 : decode cX11_missing 51 = .ok (.if_icmp .eq 51, 3) := by decide +kernel
theorem dX11_missing_54 : decode cX11_missing 54 = .ok (.aload_n 0, 1) := by decide +kernel
theorem dX11_missing_55 : decode cX11_missing 55 = .ok (.iload 4, 2) := by decide +kernel
theorem dX11_missing_57 : decode cX11_missing 57 = .ok (.bipush 10, 2) := by decide +kernel
theorem dX11_missing_59 : decode cX11_missing 59 = .ok (.idiv, 1) := by decide +kernel
theorem dX11_missing_60 : decode cX11_missing 60 = .ok (.invokevirtual 116, 3) := by decide +kernel
theorem dX11_missing_63 : decode cX11_missing 63 = .ok (.ifCond .eq 39, 3) := by decide +kernel
theorem dX11_missing_66 : decode cX11_missing 66 = .ok (.aload_n 0, 1) := by decide +kernel
theorem dX11_missing_67 : decode cX11_missing 67 = .ok (.iload 4, 2) := by decide +kernel
theorem dX11_missing_69 : decode cX11_missing 69 = .ok (.bipush 10, 2) := by decide +kernel
theorem dX11_missing_71 : decode cX11_missing 71 = .ok (.irem, 1) := by decide +kernel
theorem dX11_missing_72 : decode cX11_missing 72 = .ok (.invokevirtual 116, 3) := by decide +kernel
theorem dX11_missing_75 : decode cX11_missing 75 = .ok (.ifCond .eq 27, 3) := by decide +kernel
theorem dX11_missing_78 : decode cX11_missing 78 = .ok (.aload_n 0, 1) := by decide +kernel
theorem dX11_missing_79 : decode cX11_missing 79 = .ok (.iconst 0, 1) := by decide +kernel
theorem dX11_missing_80 : decode cX11_missing 80 = .ok (.iload 4, 2) := by decide +kernel
theorem dX11_missing_82 : decode cX11_missing 82 = .ok (.bipush 10, 2) := by decide +kernel
theorem dX11_missing_84 : decode cX11_missing 84 = .ok (.idiv, 1) := by decide +kernel
theorem dX11_missing_85 : decode cX11_missing 85 = .ok (.iload 4, 2) := by decide +kernel
theorem dX11_missing_87 : decode cX11_missing 87 = .ok (.bipush 10, 2) := by decide +kernel
theorem dX11_missing_89 : decode cX11_missing 89 = .ok (.irem, 1) := by decide +kernel
theorem dX11_missing_90 : decode cX11_missing 90 = .ok (.invokevirtual 84, 3) := by decide +kernel
theorem dX11_missing_93 : decode cX11_missing 93 = .ok (.bipush (-9), 2) := by decide +kernel
theorem dX11_missing_95 : decode cX11_missing 95 = .ok (.if_icmp .ne 7, 3) := by decide +kernel
theorem dX11_missing_98 : decode cX11_missing 98 = .ok (.iconst 1, 1) := by decide +kernel
theorem dX11_missing_99 : decode cX11_missing 99 = .ok (.goto 4, 3) := by decide +kernel
theorem dX11_missing_102 : decode cX11_missing 102 = .ok (.iconst 0, 1) := by decide +kernel
theorem dX11_missing_103 : decode cX11_missing 103 = .ok (.istore 5, 2) := by decide +kernel
theorem dX11_missing_105 : decode cX11_missing 105 = .ok (.iload 5, 2) := by decide +kernel
theorem dX11_missing_107 : decode cX11_missing 107 = .ok (.ifCond .eq 34, 3) := by decide +kernel
theorem dX11_missing_110 : decode cX11_missing 110 = .ok (.aload_n 0, 1) := by decide +kernel
theorem dX11_missing_111 : decode cX11_missing 111 = .ok (.iload 4, 2) := by decide +kernel
theorem dX11_missing_113 : decode cX11_missing 113 = .ok (.bipush 10, 2) := by decide +kernel
theorem dX11_missing_115 : decode cX11_missing 115 = .ok (.idiv, 1) := by decide +kernel
theorem dX11_missing_116 : decode cX11_missing 116 = .ok (.iload 4, 2) := by decide +kernel
theorem dX11_missing_118 : decode cX11_missing 118 = .ok (.bipush 10, 2) := by decide +kernel
theorem dX11_missing_120 : decode cX11_missing 120 = .ok (.irem, 1) := by decide +kernel
theorem dX11_missing_121 : decode cX11_missing 121 = .ok (.invokevirtual 183, 3) := by decide +kernel
theorem dX11_missing_124 : decode cX11_missing 124 = .ok (.ifCond .eq 17, 3) := by decide +kernel
theorem dX11_missing_127 : decode cX11_missing 127 = .ok (.iload_n 2, 1) := by decide +kernel
theorem dX11_missing_128 : decode cX11_missing 128 = .ok (.ifCond .ne 8, 3) := by decide +kernel
theorem dX11_missing_131 : decode cX11_missing 131 = .ok (.iload 4, 2) := by decide +kernel
theorem dX11_missing_133 : decode cX11_missing 133 = .ok (.goto 4, 3) := by decide +kernel
theorem dX11_missing_136 : decode cX11_missing 136 = .ok (.iload_n 3, 1) := by decide +kernel
theorem dX11_missing_137 : decode cX11_missing 137 = .ok (.istore_n 3, 1) := by decide +kernel
theorem dX11_missing_138 : decode cX11_missing 138 = .ok (.iinc 2 1, 3) := by decide +kernel
theorem dX11_missing_141 : decode cX11_missing 141 = .ok (.iinc 4 1, 3) := by decide +kernel
theorem dX11_missing_144 : decode cX11_missing 144 = .ok (.goto (-110), 3) := by decide +kernel
theorem dX11_missing_147 : decode cX11_missing 147 = .ok (.iload_n 1, 1) := by decide +kernel
theorem dX11_missing_148 : decode cX11_missing 148 = .ok (.ifCond .ne 7, 3) := by decide +kernel
theorem dX11_missing_151 : decode cX11_missing 151 = .ok (.iload_n 2, 1) := by decide +kernel
theorem dX11_missing_152 : decode cX11_missing 152 = .ok (.goto 4, 3) := by decide +kernel
theorem dX11_missing_155 : decode cX11_missing 155 = .ok (.iload_n 3, 1) := by decide +kernel
theorem dX11_missing_156 : decode cX11_missing 156 = .ok (.ireturn, 1) := by decide +kernel
theorem dX11_factorial_0 : decode cX11_factorial 0 = .ok (.iconst 1, 1) := by decide +kernel
theorem dX11_factorial_1 : decode cX11_factorial 1 = .ok (.istore_n 1, 1) := by decide +kernel
theorem dX11_factorial_2 : decode cX11_factorial 2 = .ok (.iconst 2, 1) := by decide +kernel
theorem dX11_factorial_3 : decode cX11_factorial 3 = .ok (.istore_n 2, 1) := by decide +kernel
theorem dX11_factorial_4 : decode cX11_factorial 4 = .ok (.iload_n 2, 1) := by decide +kernel
theorem dX11_factorial_5 : decode cX11_factorial 5 = .ok (.iload_n 0, 1) := by decide +kernel
theorem dX11_factorial_6 : decode cX11_factorial 6 = .ok (.if_icmp .gt 13, 3) := by decide +kernel
theorem dX11_factorial_9 : decode cX11_factorial 9 = .ok (.iload_n 1, 1) := by decide +kernel
theorem dX11_factorial_10 : decode cX11_factorial 10 = .ok (.iload_n 2, 1) := by decide +kernel
theorem dX11_factorial_11 : decode cX11_factorial 11 = .ok (.imul, 1) := by decide +kernel
theorem dX11_factorial_12 : decode cX11_factorial 12 = .ok (.istore_n 1, 1) := by decide +kernel
theorem dX11_factorial_13 : decode cX11_factorial 13 = .ok (.iinc 2 1, 3) := by decide +kernel
theorem dX11_factorial_16 : decode cX11_factorial 16 = .ok (.goto (-12), 3) := by decide +kernel
theorem dX11_factorial_19 : decode cX11_factorial 19 = .ok (.iload_n 1, 1) := by decide +kernel
theorem dX11_factorial_20 : decode cX11_factorial 20 = .ok (.ireturn, 1) := by decide +kernel
theorem dX11_common_0 : decode cX11_common 0 = .ok (.iload_n 0, 1) := by decide +kernel
theorem dX11_common_1 : decode cX11_common 1 = .ok (.ifCond .ge 8, 3) := by decide +kernel
theorem dX11_common_4 : decode cX11_common 4 = .ok (.iload_n 0, 1) := by decide +kernel
theorem dX11_common_5 : decode cX11_common 5 = .ok (.ineg, 1) := by decide +kernel
theorem dX11_common_6 : decode cX11_common 6 = .ok (.goto 4, 3) := by decide +kernel
theorem dX11_common_9 : decode cX11_common 9 = .ok (.iload_n 0, 1) := by decide +kernel
theorem dX11_common_10 : decode cX11_common 10 = .ok (.istore_n 2, 1) := by decide +kernel
theorem dX11_common_11 : decode cX11_common 11 = .ok (.iload_n 1, 1) := by decide +kernel
theorem dX11_common_12 : decode cX11_common 12 = .ok (.istore_n 3, 1) := by decide +kernel
theorem dX11_common_13 : decode cX11_common 13 = .ok (.iload_n 3, 1) := by decide +kernel
theorem dX11_common_14 : decode cX11_common 14 = .ok (.ifCond .eq 16, 3) := by decide +kernel
theorem dX11_common_17 : decode cX11_common 17 = .ok (.iload_n 2, 1) := by decide +kernel
theorem dX11_common_18 : decode cX11_common 18 = .ok (.iload_n 3, 1) := by decide +kernel
theorem dX11_common_19 : decode cX11_common 19 = .ok (.irem, 1) := by decide +kernel
theorem dX11_common_20 : decode cX11_common 20 = .ok (.istore 4, 2) := by decide +kernel
theorem dX11_common_22 : decode cX11_common 22 = .ok (.iload_n 3, 1) := by decide +kernel
theorem dX11_common_23 : decode cX11_common 23 = .ok (.istore_n 2, 1) := by decide +kernel
theorem dX11_common_24 : decode cX11_common 24 = .ok (.iload 4, 2) := by decide +kernel
theorem dX11_common_26 : decode cX11_common 26 = .ok (.istore_n 3, 1) := by decide +kernel
theorem dX11_common_27 : decode cX11_common 27 = .ok (.goto (-14), 3) := by decide +kernel
theorem dX11_common_30 : decode cX11_common 30 = .ok (.iload_n 2, 1) := by decide +kernel
theorem dX11_common_31 : decode cX11_common 31 = .ok (.ireturn, 1) := by decide +kernel
set_option maxRecDepth 20000 in
theorem ggX11_share_X11_isKnot : GoodIn wsX11_share wsX11_isKnot := goodIn_r _ [5, 6, 7, 8, 4, 9, 47, 48, 49, 50, 51, 52, 53, 54, 55, 56, 57, 58, 59, 60, 61, 62, 63, 64, 65, 66, 67, 68] (by decide +kernel) (by decide +kernel)
set_option maxRecDepth 20000 in
theorem gX11_share_X11_isKnot : GoodIn wsX11_share (wsV RX11 116 RX11 yX11_isKnot wsX11_isKnot) := goodIn_app (goodIn_of _ (by decide +kernel)) ggX11_share_X11_isKnot
set_option maxRecDepth 20000 in
theorem ggX11_share_X11_find : GoodIn wsX11_share wsX11_find := goodIn_r _ [13, 14, 15, 16, 17, 4, 18, 47, 48, 49, 50, 51, 52, 53, 54, 55, 56, 57, 58, 59, 60, 61, 62, 63, 64, 65, 66, 67, 68] (by decide +kernel) (by decide +kernel)
set_option maxRecDepth 20000 in
theorem gX11_share_X11_find : GoodIn wsX11_share (wsV RX11 84 RX11 yX11_find wsX11_find) := goodIn_app (goodIn_of _ (by decide +kernel)) ggX11_share_X11_find
set_option maxRecDepth 20000 in
theorem ggX11_share_X11_fromOf : GoodIn wsX11_share wsX11_fromOf := goodIn_r _ [22, 14, 47, 48, 49, 50, 51, 52, 53, 54, 55, 56, 57, 58, 59, 60, 61, 62, 63, 64, 65, 66, 67, 68] (by decide +kernel) (by decide +kernel)
set_option maxRecDepth 20000 in
theorem gX11_share_X11_fromOf : GoodIn wsX11_share (wsV RX11 70 RX11 yX11_fromOf wsX11_fromOf) := goodIn_app (goodIn_of _ (by decide +kernel)) ggX11_share_X11_fromOf
set_option maxRecDepth 20000 in
theorem ggX11_share_X11_outOf : GoodIn wsX11_share wsX11_outOf := goodIn_r _ [26, 15, 16, 17, 4, 18, 14, 19, 20, 21, 22, 47, 48, 49, 50, 51, 52, 53, 54, 55, 56, 57, 58, 59, 60, 61, 62, 63, 64, 65, 66, 67, 68] (by decide +kernel) (by decide +kernel)
set_option maxRecDepth 20000 in
theorem gX11_share_X11_outOf : GoodIn wsX11_share (wsV RX11 81 RX11 yX11_outOf wsX11_outOf) := goodIn_app (goodIn_of _ (by decide +kernel)) ggX11_share_X11_outOf
set_option maxRecDepth 20000 in
theorem ggX11_share_X11_has : GoodIn wsX11_share wsX11_has := goodIn_r _ [29] (by decide +kernel) (by decide +kernel)
set_option maxRecDepth 20000 in
theorem gX11_share_X11_has : GoodIn wsX11_share (va_wsS RX11 102 yX11_has wsX11_has) := goodIn_app (goodIn_of _ (by decide +kernel)) ggX11_share_X11_has
set_option maxRecDepth 20000 in
theorem ggX11_share_X11_ones : GoodIn wsX11_share wsX11_ones := goodIn_r _ [32] (by decide +kernel) (by decide +kernel)
set_option maxRecDepth 20000 in
theorem gX11_share_X11_ones : GoodIn wsX11_share (va_wsS RX11 113 yX11_ones wsX11_ones) := goodIn_app (goodIn_of _ (by decide +kernel)) ggX11_share_X11_ones
set_option maxRecDepth 20000 in
theorem ggX11_share_X11_factorial : GoodIn wsX11_share wsX11_factorial := goodIn_r _ [35] (by decide +kernel) (by decide +kernel)
set_option maxRecDepth 20000 in
theorem gX11_share_X11_factorial : GoodIn wsX11_share (va_wsS RX11 186 yX11_factorial wsX11_factorial) := goodIn_app (goodIn_of _ (by decide +kernel)) ggX11_share_X11_factorial
set_option maxRecDepth 20000 in
theorem ggX11_share_X11_reachedBy : GoodIn wsX11_share wsX11_reachedBy := goodIn_r _ [39, 15, 16, 17, 4, 18, 14, 19, 20, 21, 22, 40, 41, 42, 43, 27, 28, 29, 47, 48, 49, 50, 51, 52, 53, 54, 55, 56, 57, 58, 59, 60, 61, 62, 63, 64, 65, 66, 67, 68] (by decide +kernel) (by decide +kernel)
set_option maxRecDepth 20000 in
theorem gX11_share_X11_reachedBy : GoodIn wsX11_share (wsV RX11 106 RX11 yX11_reachedBy wsX11_reachedBy) := goodIn_app (goodIn_of _ (by decide +kernel)) ggX11_share_X11_reachedBy
set_option maxRecDepth 20000 in
theorem ggX11_share_X11_common : GoodIn wsX11_share wsX11_common := goodIn_r _ [46] (by decide +kernel) (by decide +kernel)
set_option maxRecDepth 20000 in
theorem gX11_share_X11_common : GoodIn wsX11_share (va_wsS RX11 189 yX11_common wsX11_common) := goodIn_app (goodIn_of _ (by decide +kernel)) ggX11_share_X11_common
theorem dX11_share_0 : decode cX11_share 0 = .ok (.aload_n 0, 1) := by decide +kernel
theorem dX11_share_1 : decode cX11_share 1 = .ok (.iload_n 1, 1) := by decide +kernel
theorem dX11_share_2 : decode cX11_share 2 = .ok (.invokevirtual 116, 3) := by decide +kernel
theorem dX11_share_5 : decode cX11_share 5 = .ok (.ifCond .eq 11, 3) := by decide +kernel
theorem dX11_share_8 : decode cX11_share 8 = .ok (.aload_n 0, 1) := by decide +kernel
theorem dX11_share_9 : decode cX11_share 9 = .ok (.iload_n 2, 1) := by decide +kernel
theorem dX11_share_10 : decode cX11_share 10 = .ok (.invokevirtual 116, 3) := by decide +kernel
theorem dX11_share_13 : decode cX11_share 13 = .ok (.ifCond .ne 5, 3) := by decide +kernel
theorem dX11_share_16 : decode cX11_share 16 = .ok (.iconst (-1), 1) := by decide +kernel
theorem dX11_share_17 : decode cX11_share 17 = .ok (.ireturn, 1) := by decide +kernel
theorem dX11_share_18 : decode cX11_share 18 = .ok (.aload_n 0, 1) := by decide +kernel
theorem dX11_share_19 : decode cX11_share 19 = .ok (.iconst 0, 1) := by decide +kernel
theorem dX11_share_20 : decode cX11_share 20 = .ok (.iload_n 1, 1) := by decide +kernel
theorem dX11_share_21 : decode cX11_share 21 = .ok (.iload_n 2, 1) := by decide +kernel
theorem dX11_share_22 : decode cX11_share 22 = .ok (.invokevirtual 84, 3) := by decide +kernel
theorem dX11_share_25 : decode cX11_share 25 = .ok (.istore 4, 2) := by decide +kernel
theorem dX11_share_27 : decode cX11_share 27 = .ok (.iload 4, 2) := by decide +kernel
theorem dX11_share_29 : decode cX11_share 29 = .ok (.bipush (-9), 2) := by decide +kernel
theorem dX11_share_31 : decode cX11_share 31 = .ok (.if_icmp .ne 6, 3) := by decide +kernel
theorem dX11_share_34 : decode cX11_share 34 = .ok (.bipush (-3), 2) := by decide +kernel
theorem dX11_share_36 : decode cX11_share 36 = .ok (.ireturn, 1) := by decide +kernel
theorem dX11_share_37 : decode cX11_share 37 = .ok (.iconst 0, 1) := by decide +kernel
theorem dX11_share_38 : decode cX11_share 38 = .ok (.istore 5, 2) := by decide +kernel
theorem dX11_share_40 : decode cX11_share 40 = .ok (.iconst 0, 1) := by decide +kernel
theorem dX11_share_41 : decode cX11_share 41 = .ok (.istore 6, 2) := by decide +kernel
theorem dX11_share_43 : decode cX11_share 43 = .ok (.iload 6, 2) := by decide +kernel
theorem dX11_share_45 : decode cX11_share 45 = .ok (.iload 4, 2) := by decide +kernel
theorem dX11_share_47 : decode cX11_share 47 = .ok (.if_icmp .ge 30, 3) := by decide +kernel
theorem dX11_share_50 : decode cX11_share 50 = .ok (.iload 5, 2) := by decide +kernel
theorem dX11_share_52 : decode cX11_share 52 = .ok (.aload_n 0, 1) := by decide +kernel
theorem dX11_share_53 : decode cX11_share 53 = .ok (.iconst 0, 1) := by decide +kernel
theorem dX11_share_54 : decode cX11_share 54 = .ok (.iload 6, 2) := by decide +kernel
theorem dX11_share_56 : decode cX11_share 56 = .ok (.invokevirtual 70, 3) := by decide +kernel
theorem dX11_share_59 : decode cX11_share 59 = .ok (.iload_n 1, 1) := by decide +kernel
theorem dX11_share_60 : decode cX11_share 60 = .ok (.if_icmp .ne 7, 3) := by decide +kernel
theorem dX11_share_63 : decode cX11_share 63 = .ok (.iconst 1, 1) := by decide +kernel
theorem dX11_share_64 : decode cX11_share 64 = .ok (.goto 4, 3) := by decide +kernel
theorem dX11_share_67 : decode cX11_share 67 = .ok (.iconst 0, 1) := by decide +kernel
theorem dX11_share_68 : decode cX11_share 68 = .ok (.iadd, 1) := by decide +kernel
theorem dX11_share_69 : decode cX11_share 69 = .ok (.istore 5, 2) := by decide +kernel
theorem dX11_share_71 : decode cX11_share 71 = .ok (.iinc 6 1, 3) := by decide +kernel
theorem dX11_share_74 : decode cX11_share 74 = .ok (.goto (-31), 3) := by decide +kernel
theorem dX11_share_77 : decode cX11_share 77 = .ok (.aload_n 0, 1) := by decide +kernel
theorem dX11_share_78 : decode cX11_share 78 = .ok (.iconst 0, 1) := by decide +kernel
theorem dX11_share_79 : decode cX11_share 79 = .ok (.iload_n 1, 1) := by decide +kernel
theorem dX11_share_80 : decode cX11_share 80 = .ok (.invokevirtual 81, 3) := by decide +kernel
theorem dX11_share_83 : decode cX11_share 83 = .ok (.istore 6, 2) := by decide +kernel
theorem dX11_share_85 : decode cX11_share 85 = .ok (.iconst 0, 1) := by decide +kernel
theorem dX11_share_86 : decode cX11_share 86 = .ok (.istore 7, 2) := by decide +kernel
theorem dX11_share_88 : decode cX11_share 88 = .ok (.iconst 0, 1) := by decide +kernel
theorem dX11_share_89 : decode cX11_share 89 = .ok (.istore 8, 2) := by decide +kernel
theorem dX11_share_91 : decode cX11_share 91 = .ok (.iload 8, 2) := by decide +kernel
theorem dX11_share_93 : decode cX11_share 93 = .ok (.iconst 1, 1) := by decide +kernel
theorem dX11_share_94 : decode cX11_share 94 = .ok (.iload 6, 2) := by decide +kernel
theorem dX11_share_96 : decode cX11_share 96 = .ok (.ishl, 1) := by decide +kernel
theorem dX11_share_97 : decode cX11_share 97 = .ok (.if_icmp .ge 83, 3) := by decide +kernel
theorem dX11_share_100 : decode cX11_share 100 = .ok (.iload 8, 2) := by decide +kernel
theorem dX11_share_102 : decode cX11_share 102 = .ok (.iload 5, 2) := by decide +kernel
theorem dX11_share_104 : decode cX11_share 104 = .ok (.invokestatic 102, 3) := by decide +kernel
theorem dX11_share_107 : decode cX11_share 107 = .ok (.ifCond .ne 67, 3) := by decide +kernel
theorem dX11_share_110 : decode cX11_share 110 = .ok (.iload 8, 2) := by decide +kernel
theorem dX11_share_112 : decode cX11_share 112 = .ok (.invokestatic 113, 3) := by decide +kernel
theorem dX11_share_115 : decode cX11_share 115 = .ok (.invokestatic 186, 3) := by decide +kernel
theorem dX11_share_118 : decode cX11_share 118 = .ok (.iload 6, 2) := by decide +kernel
theorem dX11_share_120 : decode cX11_share 120 = .ok (.iconst 1, 1) := by decide +kernel
theorem dX11_share_121 : decode cX11_share 121 = .ok (.isub, 1) := by decide +kernel
theorem dX11_share_122 : decode cX11_share 122 = .ok (.iload 8, 2) := by decide +kernel
theorem dX11_share_124 : decode cX11_share 124 = .ok (.invokestatic 113, 3) := by decide +kernel
theorem dX11_share_127 : decode cX11_share 127 = .ok (.isub, 1) := by decide +kernel
theorem dX11_share_128 : decode cX11_share 128 = .ok (.invokestatic 186, 3) := by decide +kernel
theorem dX11_share_131 : decode cX11_share 131 = .ok (.imul, 1) := by decide +kernel
theorem dX11_share_132 : decode cX11_share 132 = .ok (.istore 9, 2) := by decide +kernel
theorem dX11_share_134 : decode cX11_share 134 = .ok (.iload 7, 2) := by decide +kernel
theorem dX11_share_136 : decode cX11_share 136 = .ok (.iload 9, 2) := by decide +kernel
theorem dX11_share_138 : decode cX11_share 138 = .ok (.aload_n 0, 1) := by decide +kernel
theorem dX11_share_139 : decode cX11_share 139 = .ok (.iconst 0, 1) := by decide +kernel
theorem dX11_share_140 : decode cX11_share 140 = .ok (.bipush (-9), 2) := by decide +kernel
theorem dX11_share_142 : decode cX11_share 142 = .ok (.iload_n 1, 1) := by decide +kernel
theorem dX11_share_143 : decode cX11_share 143 = .ok (.iload 8, 2) := by decide +kernel
theorem dX11_share_145 : decode cX11_share 145 = .ok (.iconst 1, 1) := by decide +kernel
theorem dX11_share_146 : decode cX11_share 146 = .ok (.iload 5, 2) := by decide +kernel
theorem dX11_share_148 : decode cX11_share 148 = .ok (.ishl, 1) := by decide +kernel
theorem dX11_share_149 : decode cX11_share 149 = .ok (.ior, 1) := by decide +kernel
theorem dX11_share_150 : decode cX11_share 150 = .ok (.invokevirtual 106, 3) := by decide +kernel
theorem dX11_share_153 : decode cX11_share 153 = .ok (.invokestatic 113, 3) := by decide +kernel
theorem dX11_share_156 : decode cX11_share 156 = .ok (.aload_n 0, 1) := by decide +kernel
theorem dX11_share_157 : decode cX11_share 157 = .ok (.iconst 0, 1) := by decide +kernel
theorem dX11_share_158 : decode cX11_share 158 = .ok (.bipush (-9), 2) := by decide +kernel
theorem dX11_share_160 : decode cX11_share 160 = .ok (.iload_n 1, 1) := by decide +kernel
theorem dX11_share_161 : decode cX11_share 161 = .ok (.iload 8, 2) := by decide +kernel
theorem dX11_share_163 : decode cX11_share 163 = .ok (.invokevirtual 106, 3) := by decide +kernel
theorem dX11_share_166 : decode cX11_share 166 = .ok (.invokestatic 113, 3) := by decide +kernel
theorem dX11_share_169 : decode cX11_share 169 = .ok (.isub, 1) := by decide +kernel
theorem dX11_share_170 : decode cX11_share 170 = .ok (.imul, 1) := by decide +kernel
theorem dX11_share_171 : decode cX11_share 171 = .ok (.iadd, 1) := by decide +kernel
theorem dX11_share_172 : decode cX11_share 172 = .ok (.istore 7, 2) := by decide +kernel
theorem dX11_share_174 : decode cX11_share 174 = .ok (.iinc 8 1, 3) := by decide +kernel
theorem dX11_share_177 : decode cX11_share 177 = .ok (.goto (-86), 3) := by decide +kernel
theorem dX11_share_180 : decode cX11_share 180 = .ok (.iload 7, 2) := by decide +kernel
theorem dX11_share_182 : decode cX11_share 182 = .ok (.iload 6, 2) := by decide +kernel
theorem dX11_share_184 : decode cX11_share 184 = .ok (.invokestatic 186, 3) := by decide +kernel
theorem dX11_share_187 : decode cX11_share 187 = .ok (.invokestatic 189, 3) := by decide +kernel
theorem dX11_share_190 : decode cX11_share 190 = .ok (.istore 8, 2) := by decide +kernel
theorem dX11_share_192 : decode cX11_share 192 = .ok (.iload_n 3, 1) := by decide +kernel
theorem dX11_share_193 : decode cX11_share 193 = .ok (.ifCond .eq 11, 3) := by decide +kernel
theorem dX11_share_196 : decode cX11_share 196 = .ok (.iload 7, 2) := by decide +kernel
theorem dX11_share_198 : decode cX11_share 198 = .ok (.iload 8, 2) := by decide +kernel
theorem dX11_share_200 : decode cX11_share 200 = .ok (.idiv, 1) := by decide +kernel
theorem dX11_share_201 : decode cX11_share 201 = .ok (.goto 11, 3) := by decide +kernel
theorem dX11_share_204 : decode cX11_share 204 = .ok (.iload 6, 2) := by decide +kernel
theorem dX11_share_206 : decode cX11_share 206 = .ok (.invokestatic 186, 3) := by decide +kernel
theorem dX11_share_209 : decode cX11_share 209 = .ok (.iload 8, 2) := by decide +kernel
theorem dX11_share_211 : decode cX11_share 211 = .ok (.idiv, 1) := by decide +kernel
theorem dX11_share_212 : decode cX11_share 212 = .ok (.ireturn, 1) := by decide +kernel
set_option maxRecDepth 20000 in
theorem ggX11_spared_X11_isKnot : GoodIn wsX11_spared wsX11_isKnot := goodIn_r _ [7, 8, 9, 10, 6, 11, 42, 43, 44, 45, 46, 47, 48, 49, 50, 51, 52, 53, 54, 55, 56, 57, 58, 59, 60, 61, 62, 63] (by decide +kernel) (by decide +kernel)
set_option maxRecDepth 20000 in
theorem gX11_spared_X11_isKnot : GoodIn wsX11_spared (wsV RX11 116 RX11 yX11_isKnot wsX11_isKnot) := goodIn_app (goodIn_of _ (by decide +kernel)) ggX11_spared_X11_isKnot
set_option maxRecDepth 20000 in
theorem ggX11_spared_X11_in : GoodIn wsX11_spared wsX11_in := goodIn_r _ [11] (by decide +kernel) (by decide +kernel)
set_option maxRecDepth 20000 in
theorem gX11_spared_X11_in : GoodIn wsX11_spared (va_wsS RX11 59 yX11_in wsX11_in) := goodIn_app (goodIn_of _ (by decide +kernel)) ggX11_spared_X11_in
set_option maxRecDepth 20000 in
theorem ggX11_spared_X11_outOf : GoodIn wsX11_spared wsX11_outOf := goodIn_r _ [15, 16, 17, 18, 6, 19, 20, 21, 22, 23, 24, 42, 43, 44, 45, 46, 47, 48, 49, 50, 51, 52, 53, 54, 55, 56, 57, 58, 59, 60, 61, 62, 63] (by decide +kernel) (by decide +kernel)
set_option maxRecDepth 20000 in
theorem gX11_spared_X11_outOf : GoodIn wsX11_spared (wsV RX11 81 RX11 yX11_outOf wsX11_outOf) := goodIn_app (goodIn_of _ (by decide +kernel)) ggX11_spared_X11_outOf
set_option maxRecDepth 20000 in
theorem ggX11_spared_X11_has : GoodIn wsX11_spared wsX11_has := goodIn_r _ [27] (by decide +kernel) (by decide +kernel)
set_option maxRecDepth 20000 in
theorem gX11_spared_X11_has : GoodIn wsX11_spared (va_wsS RX11 102 yX11_has wsX11_has) := goodIn_app (goodIn_of _ (by decide +kernel)) ggX11_spared_X11_has
set_option maxRecDepth 20000 in
theorem ggX11_spared_X11_reachedBy : GoodIn wsX11_spared wsX11_reachedBy := goodIn_r _ [31, 16, 17, 18, 6, 19, 20, 21, 22, 23, 24, 32, 33, 34, 35, 25, 26, 27, 42, 43, 44, 45, 46, 47, 48, 49, 50, 51, 52, 53, 54, 55, 56, 57, 58, 59, 60, 61, 62, 63] (by decide +kernel) (by decide +kernel)
set_option maxRecDepth 20000 in
theorem gX11_spared_X11_reachedBy : GoodIn wsX11_spared (wsV RX11 106 RX11 yX11_reachedBy wsX11_reachedBy) := goodIn_app (goodIn_of _ (by decide +kernel)) ggX11_spared_X11_reachedBy
set_option maxRecDepth 20000 in
theorem ggX11_spared_X11_ones : GoodIn wsX11_spared wsX11_ones := goodIn_r _ [38] (by decide +kernel) (by decide +kernel)
set_option maxRecDepth 20000 in
theorem gX11_spared_X11_ones : GoodIn wsX11_spared (va_wsS RX11 113 yX11_ones wsX11_ones) := goodIn_app (goodIn_of _ (by decide +kernel)) ggX11_spared_X11_ones
set_option maxRecDepth 20000 in
theorem ggX11_spared_X11_common : GoodIn wsX11_spared wsX11_common := goodIn_r _ [41] (by decide +kernel) (by decide +kernel)
set_option maxRecDepth 20000 in
theorem gX11_spared_X11_common : GoodIn wsX11_spared (va_wsS RX11 189 yX11_common wsX11_common) := goodIn_app (goodIn_of _ (by decide +kernel)) ggX11_spared_X11_common
theorem dX11_spared_0 : decode cX11_spared 0 = .ok (.aload_n 0, 1) := by decide +kernel
theorem dX11_spared_1 : decode cX11_spared 1 = .ok (.iload_n 1, 1) := by decide +kernel
theorem dX11_spared_2 : decode cX11_spared 2 = .ok (.invokevirtual 116, 3) := by decide +kernel
theorem dX11_spared_5 : decode cX11_spared 5 = .ok (.ifCond .ne 5, 3) := by decide +kernel
theorem dX11_spared_8 : decode cX11_spared 8 = .ok (.iconst (-1), 1) := by decide +kernel
theorem dX11_spared_9 : decode cX11_spared 9 = .ok (.ireturn, 1) := by decide +kernel
theorem dX11_spared_10 : decode cX11_spared 10 = .ok (.iload_n 2, 1) := by decide +kernel
theorem dX11_spared_11 : decode cX11_spared 11 = .ok (.i2l, 1) := by decide +kernel
theorem dX11_spared_12 : decode cX11_spared 12 = .ok (.lconst 0, 1) := by decide +kernel
theorem dX11_spared_13 : decode cX11_spared 13 = .ok (.ldc2_w 192, 3) := by decide +kernel
theorem dX11_spared_16 : decode cX11_spared 16 = .ok (.invokestatic 59, 3) := by decide +kernel
theorem dX11_spared_19 : decode cX11_spared 19 = .ok (.ifCond .eq 15, 3) := by decide +kernel
theorem dX11_spared_22 : decode cX11_spared 22 = .ok (.iload_n 3, 1) := by decide +kernel
theorem dX11_spared_23 : decode cX11_spared 23 = .ok (.i2l, 1) := by decide +kernel
theorem dX11_spared_24 : decode cX11_spared 24 = .ok (.lconst 0, 1) := by decide +kernel
theorem dX11_spared_25 : decode cX11_spared 25 = .ok (.ldc2_w 166, 3) := by decide +kernel
theorem dX11_spared_28 : decode cX11_spared 28 = .ok (.invokestatic 59, 3) := by decide +kernel
theorem dX11_spared_31 : decode cX11_spared 31 = .ok (.ifCond .ne 6, 3) := by decide +kernel
theorem dX11_spared_34 : decode cX11_spared 34 = .ok (.bipush (-2), 2) := by decide +kernel
theorem dX11_spared_36 : decode cX11_spared 36 = .ok (.ireturn, 1) := by decide +kernel
theorem dX11_spared_37 : decode cX11_spared 37 = .ok (.aload_n 0, 1) := by decide +kernel
theorem dX11_spared_38 : decode cX11_spared 38 = .ok (.iconst 0, 1) := by decide +kernel
theorem dX11_spared_39 : decode cX11_spared 39 = .ok (.iload_n 1, 1) := by decide +kernel
theorem dX11_spared_40 : decode cX11_spared 40 = .ok (.invokevirtual 81, 3) := by decide +kernel
theorem dX11_spared_43 : decode cX11_spared 43 = .ok (.istore 5, 2) := by decide +kernel
theorem dX11_spared_45 : decode cX11_spared 45 = .ok (.iconst 0, 1) := by decide +kernel
theorem dX11_spared_46 : decode cX11_spared 46 = .ok (.istore 6, 2) := by decide +kernel
theorem dX11_spared_48 : decode cX11_spared 48 = .ok (.iconst 0, 1) := by decide +kernel
theorem dX11_spared_49 : decode cX11_spared 49 = .ok (.istore 7, 2) := by decide +kernel
theorem dX11_spared_51 : decode cX11_spared 51 = .ok (.iconst 0, 1) := by decide +kernel
theorem dX11_spared_52 : decode cX11_spared 52 = .ok (.istore 8, 2) := by decide +kernel
theorem dX11_spared_54 : decode cX11_spared 54 = .ok (.iload 8, 2) := by decide +kernel
theorem dX11_spared_56 : decode cX11_spared 56 = .ok (.iconst 1, 1) := by decide +kernel
theorem dX11_spared_57 : decode cX11_spared 57 = .ok (.iload 5, 2) := by decide +kernel
theorem dX11_spared_59 : decode cX11_spared 59 = .ok (.ishl, 1) := by decide +kernel
theorem dX11_spared_60 : decode cX11_spared 60 = .ok (.if_icmp .ge 86, 3) := by decide +kernel
theorem dX11_spared_63 : decode cX11_spared 63 = .ok (.iconst 1, 1) := by decide +kernel
theorem dX11_spared_64 : decode cX11_spared 64 = .ok (.istore 9, 2) := by decide +kernel
theorem dX11_spared_66 : decode cX11_spared 66 = .ok (.iconst 0, 1) := by decide +kernel
theorem dX11_spared_67 : decode cX11_spared 67 = .ok (.istore 10, 2) := by decide +kernel
theorem dX11_spared_69 : decode cX11_spared 69 = .ok (.iload 10, 2) := by decide +kernel
theorem dX11_spared_71 : decode cX11_spared 71 = .ok (.iload 5, 2) := by decide +kernel
theorem dX11_spared_73 : decode cX11_spared 73 = .ok (.if_icmp .ge 32, 3) := by decide +kernel
theorem dX11_spared_76 : decode cX11_spared 76 = .ok (.iload 9, 2) := by decide +kernel
theorem dX11_spared_78 : decode cX11_spared 78 = .ok (.iload 8, 2) := by decide +kernel
theorem dX11_spared_80 : decode cX11_spared 80 = .ok (.iload 10, 2) := by decide +kernel
theorem dX11_spared_82 : decode cX11_spared 82 = .ok (.invokestatic 102, 3) := by decide +kernel
theorem dX11_spared_85 : decode cX11_spared 85 = .ok (.ifCond .eq 10, 3) := by decide +kernel
theorem dX11_spared_88 : decode cX11_spared 88 = .ok (.bipush 10, 2) := by decide +kernel
theorem dX11_spared_90 : decode cX11_spared 90 = .ok (.iload_n 3, 1) := by decide +kernel
theorem dX11_spared_91 : decode cX11_spared 91 = .ok (.isub, 1) := by decide +kernel
theorem dX11_spared_92 : decode cX11_spared 92 = .ok (.goto 4, 3) := by decide +kernel
theorem dX11_spared_95 : decode cX11_spared 95 = .ok (.iload_n 3, 1) := by decide +kernel
theorem dX11_spared_96 : decode cX11_spared 96 = .ok (.imul, 1) := by decide +kernel
theorem dX11_spared_97 : decode cX11_spared 97 = .ok (.istore 9, 2) := by decide +kernel
theorem dX11_spared_99 : decode cX11_spared 99 = .ok (.iinc 10 1, 3) := by decide +kernel
theorem dX11_spared_102 : decode cX11_spared 102 = .ok (.goto (-33), 3) := by decide +kernel
theorem dX11_spared_105 : decode cX11_spared 105 = .ok (.iload 7, 2) := by decide +kernel
theorem dX11_spared_107 : decode cX11_spared 107 = .ok (.iload 9, 2) := by decide +kernel
theorem dX11_spared_109 : decode cX11_spared 109 = .ok (.iadd, 1) := by decide +kernel
theorem dX11_spared_110 : decode cX11_spared 110 = .ok (.istore 7, 2) := by decide +kernel
theorem dX11_spared_112 : decode cX11_spared 112 = .ok (.iload 6, 2) := by decide +kernel
theorem dX11_spared_114 : decode cX11_spared 114 = .ok (.aload_n 0, 1) := by decide +kernel
theorem dX11_spared_115 : decode cX11_spared 115 = .ok (.iconst 0, 1) := by decide +kernel
theorem dX11_spared_116 : decode cX11_spared 116 = .ok (.bipush (-9), 2) := by decide +kernel
theorem dX11_spared_118 : decode cX11_spared 118 = .ok (.iload_n 1, 1) := by decide +kernel
theorem dX11_spared_119 : decode cX11_spared 119 = .ok (.iload 8, 2) := by decide +kernel
theorem dX11_spared_121 : decode cX11_spared 121 = .ok (.invokevirtual 106, 3) := by decide +kernel
theorem dX11_spared_124 : decode cX11_spared 124 = .ok (.invokestatic 113, 3) := by decide +kernel
theorem dX11_spared_127 : decode cX11_spared 127 = .ok (.iload_n 2, 1) := by decide +kernel
theorem dX11_spared_128 : decode cX11_spared 128 = .ok (.if_icmp .lt 8, 3) := by decide +kernel
theorem dX11_spared_131 : decode cX11_spared 131 = .ok (.iload 9, 2) := by decide +kernel
theorem dX11_spared_133 : decode cX11_spared 133 = .ok (.goto 4, 3) := by decide +kernel
theorem dX11_spared_136 : decode cX11_spared 136 = .ok (.iconst 0, 1) := by decide +kernel
theorem dX11_spared_137 : decode cX11_spared 137 = .ok (.iadd, 1) := by decide +kernel
theorem dX11_spared_138 : decode cX11_spared 138 = .ok (.istore 6, 2) := by decide +kernel
theorem dX11_spared_140 : decode cX11_spared 140 = .ok (.iinc 8 1, 3) := by decide +kernel
theorem dX11_spared_143 : decode cX11_spared 143 = .ok (.goto (-89), 3) := by decide +kernel
theorem dX11_spared_146 : decode cX11_spared 146 = .ok (.iload 6, 2) := by decide +kernel
theorem dX11_spared_148 : decode cX11_spared 148 = .ok (.iload 7, 2) := by decide +kernel
theorem dX11_spared_150 : decode cX11_spared 150 = .ok (.invokestatic 189, 3) := by decide +kernel
theorem dX11_spared_153 : decode cX11_spared 153 = .ok (.istore 8, 2) := by decide +kernel
theorem dX11_spared_155 : decode cX11_spared 155 = .ok (.iload 4, 2) := by decide +kernel
theorem dX11_spared_157 : decode cX11_spared 157 = .ok (.ifCond .eq 11, 3) := by decide +kernel
theorem dX11_spared_160 : decode cX11_spared 160 = .ok (.iload 6, 2) := by decide +kernel
theorem dX11_spared_162 : decode cX11_spared 162 = .ok (.iload 8, 2) := by decide +kernel
theorem dX11_spared_164 : decode cX11_spared 164 = .ok (.idiv, 1) := by decide +kernel
theorem dX11_spared_165 : decode cX11_spared 165 = .ok (.goto 8, 3) := by decide +kernel
theorem dX11_spared_168 : decode cX11_spared 168 = .ok (.iload 7, 2) := by decide +kernel
theorem dX11_spared_170 : decode cX11_spared 170 = .ok (.iload 8, 2) := by decide +kernel
theorem dX11_spared_172 : decode cX11_spared 172 = .ok (.idiv, 1) := by decide +kernel
theorem dX11_spared_173 : decode cX11_spared 173 = .ok (.ireturn, 1) := by decide +kernel
theorem dX11_seed_0 : decode cX11_seed 0 = .ok (.aload_n 0, 1) := by decide +kernel
theorem dX11_seed_1 : decode cX11_seed 1 = .ok (.getfield 194, 3) := by decide +kernel
theorem dX11_seed_4 : decode cX11_seed 4 = .ok (.lstore_n 3, 1) := by decide +kernel
theorem dX11_seed_5 : decode cX11_seed 5 = .ok (.aload_n 0, 1) := by decide +kernel
theorem dX11_seed_6 : decode cX11_seed 6 = .ok (.lload_n 1, 1) := by decide +kernel
theorem dX11_seed_7 : decode cX11_seed 7 = .ok (.putfield 194, 3) := by decide +kernel
theorem dX11_seed_10 : decode cX11_seed 10 = .ok (.lload_n 3, 1) := by decide +kernel
theorem dX11_seed_11 : decode cX11_seed 11 = .ok (.lreturn, 1) := by decide +kernel
set_option maxRecDepth 20000 in
theorem ggX11_depthsTogether_X11_has : GoodIn wsX11_depthsTogether wsX11_has := goodIn_r _ [5] (by decide +kernel) (by decide +kernel)
set_option maxRecDepth 20000 in
theorem gX11_depthsTogether_X11_has : GoodIn wsX11_depthsTogether (va_wsS RX11 102 yX11_has wsX11_has) := goodIn_app (goodIn_of _ (by decide +kernel)) ggX11_depthsTogether_X11_has
set_option maxRecDepth 20000 in
theorem ggX11_depthsTogether_X11_depthOf : GoodIn wsX11_depthsTogether wsX11_depthOf := goodIn_r _ [9, 1, 10, 2, 3, 4, 5, 11, 12, 13, 14, 15, 16, 17, 18, 19, 20, 21, 22, 23, 24, 25, 26, 27, 28, 29, 30, 31, 32, 33, 34, 35] (by decide +kernel) (by decide +kernel)
set_option maxRecDepth 20000 in
theorem gX11_depthsTogether_X11_depthOf : GoodIn wsX11_depthsTogether (wsV RX11 130 RX11 yX11_depthOf wsX11_depthOf) := goodIn_app (goodIn_of _ (by decide +kernel)) ggX11_depthsTogether_X11_depthOf
theorem dX11_depthsTogether_0 : decode cX11_depthsTogether 0 = .ok (.iconst 0, 1) := by decide +kernel
theorem dX11_depthsTogether_1 : decode cX11_depthsTogether 1 = .ok (.istore_n 1, 1) := by decide +kernel
theorem dX11_depthsTogether_2 : decode cX11_depthsTogether 2 = .ok (.iconst 0, 1) := by decide +kernel
theorem dX11_depthsTogether_3 : decode cX11_depthsTogether 3 = .ok (.istore_n 2, 1) := by decide +kernel
theorem dX11_depthsTogether_4 : decode cX11_depthsTogether 4 = .ok (.iload_n 2, 1) := by decide +kernel
theorem dX11_depthsTogether_5 : decode cX11_depthsTogether 5 = .ok (.bipush 8, 2) := by decide +kernel
theorem dX11_depthsTogether_7 : decode cX11_depthsTogether 7 = .ok (.if_icmp .ge 32, 3) := by decide +kernel
theorem dX11_depthsTogether_10 : decode cX11_depthsTogether 10 = .ok (.iload_n 1, 1) := by decide +kernel
theorem dX11_depthsTogether_11 : decode cX11_depthsTogether 11 = .ok (.aload_n 0, 1) := by decide +kernel
theorem dX11_depthsTogether_12 : decode cX11_depthsTogether 12 = .ok (.getfield 110, 3) := by decide +kernel
theorem dX11_depthsTogether_15 : decode cX11_depthsTogether 15 = .ok (.iload_n 2, 1) := by decide +kernel
theorem dX11_depthsTogether_16 : decode cX11_depthsTogether 16 = .ok (.invokestatic 102, 3) := by decide +kernel
theorem dX11_depthsTogether_19 : decode cX11_depthsTogether 19 = .ok (.ifCond .eq 11, 3) := by decide +kernel
theorem dX11_depthsTogether_22 : decode cX11_depthsTogether 22 = .ok (.aload_n 0, 1) := by decide +kernel
theorem dX11_depthsTogether_23 : decode cX11_depthsTogether 23 = .ok (.iload_n 2, 1) := by decide +kernel
theorem dX11_depthsTogether_24 : decode cX11_depthsTogether 24 = .ok (.invokevirtual 130, 3) := by decide +kernel
theorem dX11_depthsTogether_27 : decode cX11_depthsTogether 27 = .ok (.goto 4, 3) := by decide +kernel
theorem dX11_depthsTogether_30 : decode cX11_depthsTogether 30 = .ok (.iconst 0, 1) := by decide +kernel
theorem dX11_depthsTogether_31 : decode cX11_depthsTogether 31 = .ok (.iadd, 1) := by decide +kernel
theorem dX11_depthsTogether_32 : decode cX11_depthsTogether 32 = .ok (.istore_n 1, 1) := by decide +kernel
theorem dX11_depthsTogether_33 : decode cX11_depthsTogether 33 = .ok (.iinc 2 1, 3) := by decide +kernel
theorem dX11_depthsTogether_36 : decode cX11_depthsTogether 36 = .ok (.goto (-32), 3) := by decide +kernel
theorem dX11_depthsTogether_39 : decode cX11_depthsTogether 39 = .ok (.iload_n 1, 1) := by decide +kernel
theorem dX11_depthsTogether_40 : decode cX11_depthsTogether 40 = .ok (.ireturn, 1) := by decide +kernel
set_option maxRecDepth 20000 in
theorem ggX11_drawn_X11_in : GoodIn wsX11_drawn wsX11_in := goodIn_r _ [9] (by decide +kernel) (by decide +kernel)
set_option maxRecDepth 20000 in
theorem gX11_drawn_X11_in : GoodIn wsX11_drawn (va_wsS RX11 59 yX11_in wsX11_in) := goodIn_app (goodIn_of _ (by decide +kernel)) ggX11_drawn_X11_in
set_option maxRecDepth 20000 in
theorem ggX11_drawn_X11_layTrial : GoodIn wsX11_drawn wsX11_layTrial := goodIn_r _ [13, 14, 90, 91, 92, 93, 94, 95, 96, 97, 98, 99, 100, 101, 102, 103, 104, 105, 106, 107, 108, 109, 110, 111] (by decide +kernel) (by decide +kernel)
set_option maxRecDepth 20000 in
theorem gX11_drawn_X11_layTrial : GoodIn wsX11_drawn (wsV RX11 152 RX11 yX11_layTrial wsX11_layTrial) := goodIn_app (goodIn_of _ (by decide +kernel)) ggX11_drawn_X11_layTrial
set_option maxRecDepth 20000 in
theorem ggX11_drawn_X11_find : GoodIn wsX11_drawn wsX11_find := goodIn_r _ [18, 14, 19, 20, 21, 8, 22, 90, 91, 92, 93, 94, 95, 96, 97, 98, 99, 100, 101, 102, 103, 104, 105, 106, 107, 108, 109, 110, 111] (by decide +kernel) (by decide +kernel)
set_option maxRecDepth 20000 in
theorem gX11_drawn_X11_find : GoodIn wsX11_drawn (wsV RX11 84 RX11 yX11_find wsX11_find) := goodIn_app (goodIn_of _ (by decide +kernel)) ggX11_drawn_X11_find
set_option maxRecDepth 20000 in
theorem ggX11_drawn_X11_tryThing : GoodIn wsX11_drawn wsX11_tryThing := goodIn_r _ [26, 27, 28, 29, 30, 31, 8, 32, 5, 6, 7, 9, 15, 16, 17, 18, 14, 19, 20, 21, 22, 33, 34, 35, 36, 37, 38, 39, 40, 41, 42, 43, 44, 45, 46, 47, 48, 49, 50, 51, 52, 53, 54, 55, 56, 57, 58, 59, 60, 61, 62, 63, 64, 65, 66, 67, 68, 69, 70, 71, 72, 73, 74, 75, 76, 77, 78, 79, 80, 81, 82, 83, 84, 85, 90, 91, 92, 93, 94, 95, 96, 97, 98, 99, 100, 101, 102, 103, 104, 105, 106, 107, 108, 109, 110, 111] (by decide +kernel) (by decide +kernel)
set_option maxRecDepth 20000 in
theorem gX11_drawn_X11_tryThing : GoodIn wsX11_drawn (wsV RX11 176 RX11 yX11_tryThing wsX11_tryThing) := goodIn_app (goodIn_of _ (by decide +kernel)) ggX11_drawn_X11_tryThing
set_option maxRecDepth 20000 in
theorem ggX11_drawn_X11_findCovers : GoodIn wsX11_drawn wsX11_findCovers := goodIn_r _ [44, 28, 27, 45, 46, 47, 8, 48, 19, 20, 21, 22, 14, 49, 50, 51, 52, 53, 54, 55, 56, 57, 58, 59, 90, 91, 92, 93, 94, 95, 96, 97, 98, 99, 100, 101, 102, 103, 104, 105, 106, 107, 108, 109, 110, 111] (by decide +kernel) (by decide +kernel)
set_option maxRecDepth 20000 in
theorem gX11_drawn_X11_findCovers : GoodIn wsX11_drawn (wsV RX11 120 RX11 yX11_findCovers wsX11_findCovers) := goodIn_app (goodIn_of _ (by decide +kernel)) ggX11_drawn_X11_findCovers
set_option maxRecDepth 20000 in
theorem ggX11_drawn_X11_depthsTogether : GoodIn wsX11_drawn wsX11_depthsTogether := goodIn_r _ [89, 28, 57, 58, 8, 59, 71, 72, 73, 74, 27, 75, 76, 77, 90, 91, 92, 93, 94, 95, 96, 97, 98, 99, 100, 101, 102, 103, 104, 105, 106, 107, 108, 109, 110, 111] (by decide +kernel) (by decide +kernel)
set_option maxRecDepth 20000 in
theorem gX11_drawn_X11_depthsTogether : GoodIn wsX11_drawn (wsV RX11 204 RX11 yX11_depthsTogether wsX11_depthsTogether) := goodIn_app (goodIn_of _ (by decide +kernel)) ggX11_drawn_X11_depthsTogether
theorem dX11_drawn_0 : decode cX11_drawn 0 = .ok (.iload_n 1, 1) := by decide +kernel
theorem dX11_drawn_1 : decode cX11_drawn 1 = .ok (.i2l, 1) := by decide +kernel
theorem dX11_drawn_2 : decode cX11_drawn 2 = .ok (.lconst 1, 1) := by decide +kernel
theorem dX11_drawn_3 : decode cX11_drawn 3 = .ok (.ldc2_w 198, 3) := by decide +kernel
theorem dX11_drawn_6 : decode cX11_drawn 6 = .ok (.invokestatic 59, 3) := by decide +kernel
theorem dX11_drawn_9 : decode cX11_drawn 9 = .ok (.ifCond .ne 6, 3) := by decide +kernel
theorem dX11_drawn_12 : decode cX11_drawn 12 = .ok (.bipush (-2), 2) := by decide +kernel
theorem dX11_drawn_14 : decode cX11_drawn 14 = .ok (.ireturn, 1) := by decide +kernel
theorem dX11_drawn_15 : decode cX11_drawn 15 = .ok (.aload_n 0, 1) := by decide +kernel
theorem dX11_drawn_16 : decode cX11_drawn 16 = .ok (.invokevirtual 152, 3) := by decide +kernel
theorem dX11_drawn_19 : decode cX11_drawn 19 = .ok (.iconst 0, 1) := by decide +kernel
theorem dX11_drawn_20 : decode cX11_drawn 20 = .ok (.istore_n 2, 1) := by decide +kernel
theorem dX11_drawn_21 : decode cX11_drawn 21 = .ok (.iconst 0, 1) := by decide +kernel
theorem dX11_drawn_22 : decode cX11_drawn 22 = .ok (.istore_n 3, 1) := by decide +kernel
theorem dX11_drawn_23 : decode cX11_drawn 23 = .ok (.iload_n 3, 1) := by decide +kernel
theorem dX11_drawn_24 : decode cX11_drawn 24 = .ok (.iload_n 1, 1) := by decide +kernel
theorem dX11_drawn_25 : decode cX11_drawn 25 = .ok (.if_icmp .ge 96, 3) := by decide +kernel
theorem dX11_drawn_28 : decode cX11_drawn 28 = .ok (.aload_n 0, 1) := by decide +kernel
theorem dX11_drawn_29 : decode cX11_drawn 29 = .ok (.aload_n 0, 1) := by decide +kernel
theorem dX11_drawn_30 : decode cX11_drawn 30 = .ok (.getfield 194, 3) := by decide +kernel
theorem dX11_drawn_33 : decode cX11_drawn 33 = .ok (.ldc2_w 200, 3) := by decide +kernel
theorem dX11_drawn_36 : decode cX11_drawn 36 = .ok (.lmul, 1) := by decide +kernel
theorem dX11_drawn_37 : decode cX11_drawn 37 = .ok (.ldc2_w 202, 3) := by decide +kernel
theorem dX11_drawn_40 : decode cX11_drawn 40 = .ok (.ladd, 1) := by decide +kernel
theorem dX11_drawn_41 : decode cX11_drawn 41 = .ok (.putfield 194, 3) := by decide +kernel
theorem dX11_drawn_44 : decode cX11_drawn 44 = .ok (.aload_n 0, 1) := by decide +kernel
theorem dX11_drawn_45 : decode cX11_drawn 45 = .ok (.getfield 194, 3) := by decide +kernel
theorem dX11_drawn_48 : decode cX11_drawn 48 = .ok (.bipush 33, 2) := by decide +kernel
theorem dX11_drawn_50 : decode cX11_drawn 50 = .ok (.lushr, 1) := by decide +kernel
theorem dX11_drawn_51 : decode cX11_drawn 51 = .ok (.l2i, 1) := by decide +kernel
theorem dX11_drawn_52 : decode cX11_drawn 52 = .ok (.istore 4, 2) := by decide +kernel
theorem dX11_drawn_54 : decode cX11_drawn 54 = .ok (.iload 4, 2) := by decide +kernel
theorem dX11_drawn_56 : decode cX11_drawn 56 = .ok (.aload_n 0, 1) := by decide +kernel
theorem dX11_drawn_57 : decode cX11_drawn 57 = .ok (.getfield 7, 3) := by decide +kernel
theorem dX11_drawn_60 : decode cX11_drawn 60 = .ok (.irem, 1) := by decide +kernel
theorem dX11_drawn_61 : decode cX11_drawn 61 = .ok (.istore 5, 2) := by decide +kernel
theorem dX11_drawn_63 : decode cX11_drawn 63 = .ok (.iload 4, 2) := by decide +kernel
theorem dX11_drawn_65 : decode cX11_drawn 65 = .ok (.bipush 8, 2) := by decide +kernel
theorem dX11_drawn_67 : decode cX11_drawn 67 = .ok (.idiv, 1) := by decide +kernel
theorem dX11_drawn_68 : decode cX11_drawn 68 = .ok (.aload_n 0, 1) := by decide +kernel
theorem dX11_drawn_69 : decode cX11_drawn 69 = .ok (.getfield 7, 3) := by decide +kernel
theorem dX11_drawn_72 : decode cX11_drawn 72 = .ok (.irem, 1) := by decide +kernel
theorem dX11_drawn_73 : decode cX11_drawn 73 = .ok (.istore 6, 2) := by decide +kernel
theorem dX11_drawn_75 : decode cX11_drawn 75 = .ok (.aload_n 0, 1) := by decide +kernel
theorem dX11_drawn_76 : decode cX11_drawn 76 = .ok (.aload_n 0, 1) := by decide +kernel
theorem dX11_drawn_77 : decode cX11_drawn 77 = .ok (.iconst 1, 1) := by decide +kernel
theorem dX11_drawn_78 : decode cX11_drawn 78 = .ok (.iload 5, 2) := by decide +kernel
theorem dX11_drawn_80 : decode cX11_drawn 80 = .ok (.iload 6, 2) := by decide +kernel
theorem dX11_drawn_82 : decode cX11_drawn 82 = .ok (.invokevirtual 84, 3) := by decide +kernel
theorem dX11_drawn_85 : decode cX11_drawn 85 = .ok (.bipush (-9), 2) := by decide +kernel
theorem dX11_drawn_87 : decode cX11_drawn 87 = .ok (.if_icmp .ne 7, 3) := by decide +kernel
theorem dX11_drawn_90 : decode cX11_drawn 90 = .ok (.iconst 1, 1) := by decide +kernel
theorem dX11_drawn_91 : decode cX11_drawn 91 = .ok (.goto 4, 3) := by decide +kernel
theorem dX11_drawn_94 : decode cX11_drawn 94 = .ok (.iconst 2, 1) := by decide +kernel
theorem dX11_drawn_95 : decode cX11_drawn 95 = .ok (.iload 5, 2) := by decide +kernel
theorem dX11_drawn_97 : decode cX11_drawn 97 = .ok (.iload 6, 2) := by decide +kernel
theorem dX11_drawn_99 : decode cX11_drawn 99 = .ok (.invokevirtual 176, 3) := by decide +kernel
theorem dX11_drawn_102 : decode cX11_drawn 102 = .ok (.pop, 1) := by decide +kernel
theorem dX11_drawn_103 : decode cX11_drawn 103 = .ok (.aload_n 0, 1) := by decide +kernel
theorem dX11_drawn_104 : decode cX11_drawn 104 = .ok (.iconst 1, 1) := by decide +kernel
theorem dX11_drawn_105 : decode cX11_drawn 105 = .ok (.invokevirtual 120, 3) := by decide +kernel
theorem dX11_drawn_108 : decode cX11_drawn 108 = .ok (.iload_n 2, 1) := by decide +kernel
theorem dX11_drawn_109 : decode cX11_drawn 109 = .ok (.aload_n 0, 1) := by decide +kernel
theorem dX11_drawn_110 : decode cX11_drawn 110 = .ok (.invokevirtual 204, 3) := by decide +kernel
theorem dX11_drawn_113 : decode cX11_drawn 113 = .ok (.iadd, 1) := by decide +kernel
theorem dX11_drawn_114 : decode cX11_drawn 114 = .ok (.istore_n 2, 1) := by decide +kernel
theorem dX11_drawn_115 : decode cX11_drawn 115 = .ok (.iinc 3 1, 3) := by decide +kernel
theorem dX11_drawn_118 : decode cX11_drawn 118 = .ok (.goto (-95), 3) := by decide +kernel
theorem dX11_drawn_121 : decode cX11_drawn 121 = .ok (.iload_n 2, 1) := by decide +kernel
theorem dX11_drawn_122 : decode cX11_drawn 122 = .ok (.ireturn, 1) := by decide +kernel
set_option maxRecDepth 20000 in
theorem ggX11_keep_X11_in : GoodIn wsX11_keep wsX11_in := goodIn_r _ [7] (by decide +kernel) (by decide +kernel)
set_option maxRecDepth 20000 in
theorem gX11_keep_X11_in : GoodIn wsX11_keep (va_wsS RX11 59 yX11_in wsX11_in) := goodIn_app (goodIn_of _ (by decide +kernel)) ggX11_keep_X11_in
set_option maxRecDepth 20000 in
theorem ggX11_keep_X11_many : GoodIn wsX11_keep wsX11_many := goodIn_r _ [11, 3, 12, 13, 14, 15, 16, 17, 18, 19, 20, 21, 22, 23, 24, 25, 26, 27, 28, 29, 30, 31, 32, 33] (by decide +kernel) (by decide +kernel)
set_option maxRecDepth 20000 in
theorem gX11_keep_X11_many : GoodIn wsX11_keep (wsV RX11 66 RX11 yX11_many wsX11_many) := goodIn_app (goodIn_of _ (by decide +kernel)) ggX11_keep_X11_many
theorem dX11_keep_0 : decode cX11_keep 0 = .ok (.iload_n 1, 1) := by decide +kernel
theorem dX11_keep_1 : decode cX11_keep 1 = .ok (.i2l, 1) := by decide +kernel
theorem dX11_keep_2 : decode cX11_keep 2 = .ok (.lconst 0, 1) := by decide +kernel
theorem dX11_keep_3 : decode cX11_keep 3 = .ok (.lconst 1, 1) := by decide +kernel
theorem dX11_keep_4 : decode cX11_keep 4 = .ok (.invokestatic 59, 3) := by decide +kernel
theorem dX11_keep_7 : decode cX11_keep 7 = .ok (.ifCond .ne 5, 3) := by decide +kernel
theorem dX11_keep_10 : decode cX11_keep 10 = .ok (.iconst (-1), 1) := by decide +kernel
theorem dX11_keep_11 : decode cX11_keep 11 = .ok (.ireturn, 1) := by decide +kernel
theorem dX11_keep_12 : decode cX11_keep 12 = .ok (.aload_n 0, 1) := by decide +kernel
theorem dX11_keep_13 : decode cX11_keep 13 = .ok (.getfield 50, 3) := by decide +kernel
theorem dX11_keep_16 : decode cX11_keep 16 = .ok (.iload_n 1, 1) := by decide +kernel
theorem dX11_keep_17 : decode cX11_keep 17 = .ok (.iconst 1, 1) := by decide +kernel
theorem dX11_keep_18 : decode cX11_keep 18 = .ok (.bastore, 1) := by decide +kernel
theorem dX11_keep_19 : decode cX11_keep 19 = .ok (.iconst 0, 1) := by decide +kernel
theorem dX11_keep_20 : decode cX11_keep 20 = .ok (.istore_n 2, 1) := by decide +kernel
theorem dX11_keep_21 : decode cX11_keep 21 = .ok (.iload_n 2, 1) := by decide +kernel
theorem dX11_keep_22 : decode cX11_keep 22 = .ok (.bipush 50, 2) := by decide +kernel
theorem dX11_keep_24 : decode cX11_keep 24 = .ok (.if_icmp .ge 26, 3) := by decide +kernel
theorem dX11_keep_27 : decode cX11_keep 27 = .ok (.aload_n 0, 1) := by decide +kernel
theorem dX11_keep_28 : decode cX11_keep 28 = .ok (.getfield 54, 3) := by decide +kernel
theorem dX11_keep_31 : decode cX11_keep 31 = .ok (.bipush 50, 2) := by decide +kernel
theorem dX11_keep_33 : decode cX11_keep 33 = .ok (.iload_n 1, 1) := by decide +kernel
theorem dX11_keep_34 : decode cX11_keep 34 = .ok (.imul, 1) := by decide +kernel
theorem dX11_keep_35 : decode cX11_keep 35 = .ok (.iload_n 2, 1) := by decide +kernel
theorem dX11_keep_36 : decode cX11_keep 36 = .ok (.iadd, 1) := by decide +kernel
theorem dX11_keep_37 : decode cX11_keep 37 = .ok (.aload_n 0, 1) := by decide +kernel
theorem dX11_keep_38 : decode cX11_keep 38 = .ok (.getfield 13, 3) := by decide +kernel
theorem dX11_keep_41 : decode cX11_keep 41 = .ok (.iload_n 2, 1) := by decide +kernel
theorem dX11_keep_42 : decode cX11_keep 42 = .ok (.iaload, 1) := by decide +kernel
theorem dX11_keep_43 : decode cX11_keep 43 = .ok (.iastore, 1) := by decide +kernel
theorem dX11_keep_44 : decode cX11_keep 44 = .ok (.iinc 2 1, 3) := by decide +kernel
theorem dX11_keep_47 : decode cX11_keep 47 = .ok (.goto (-26), 3) := by decide +kernel
theorem dX11_keep_50 : decode cX11_keep 50 = .ok (.aload_n 0, 1) := by decide +kernel
theorem dX11_keep_51 : decode cX11_keep 51 = .ok (.iconst 0, 1) := by decide +kernel
theorem dX11_keep_52 : decode cX11_keep 52 = .ok (.invokevirtual 66, 3) := by decide +kernel
theorem dX11_keep_55 : decode cX11_keep 55 = .ok (.ireturn, 1) := by decide +kernel
set_option maxRecDepth 20000 in
theorem ggX11_again_X11_in : GoodIn wsX11_again wsX11_in := goodIn_r _ [8] (by decide +kernel) (by decide +kernel)
set_option maxRecDepth 20000 in
theorem gX11_again_X11_in : GoodIn wsX11_again (va_wsS RX11 59 yX11_in wsX11_in) := goodIn_app (goodIn_of _ (by decide +kernel)) ggX11_again_X11_in
set_option maxRecDepth 20000 in
theorem ggX11_again_X11_many : GoodIn wsX11_again wsX11_many := goodIn_r _ [12, 2, 13, 14, 15, 16, 17, 18, 19, 20, 21, 22, 23, 24, 25, 26, 27, 28, 29, 30, 31, 32, 33, 34] (by decide +kernel) (by decide +kernel)
set_option maxRecDepth 20000 in
theorem gX11_again_X11_many : GoodIn wsX11_again (wsV RX11 66 RX11 yX11_many wsX11_many) := goodIn_app (goodIn_of _ (by decide +kernel)) ggX11_again_X11_many
theorem dX11_again_0 : decode cX11_again 0 = .ok (.iload_n 1, 1) := by decide +kernel
theorem dX11_again_1 : decode cX11_again 1 = .ok (.i2l, 1) := by decide +kernel
theorem dX11_again_2 : decode cX11_again 2 = .ok (.lconst 0, 1) := by decide +kernel
theorem dX11_again_3 : decode cX11_again 3 = .ok (.lconst 1, 1) := by decide +kernel
theorem dX11_again_4 : decode cX11_again 4 = .ok (.invokestatic 59, 3) := by decide +kernel
theorem dX11_again_7 : decode cX11_again 7 = .ok (.ifCond .ne 5, 3) := by decide +kernel
theorem dX11_again_10 : decode cX11_again 10 = .ok (.iconst (-1), 1) := by decide +kernel
theorem dX11_again_11 : decode cX11_again 11 = .ok (.ireturn, 1) := by decide +kernel
theorem dX11_again_12 : decode cX11_again 12 = .ok (.aload_n 0, 1) := by decide +kernel
theorem dX11_again_13 : decode cX11_again 13 = .ok (.getfield 50, 3) := by decide +kernel
theorem dX11_again_16 : decode cX11_again 16 = .ok (.iload_n 1, 1) := by decide +kernel
theorem dX11_again_17 : decode cX11_again 17 = .ok (.baload, 1) := by decide +kernel
theorem dX11_again_18 : decode cX11_again 18 = .ok (.ifCond .ne 6, 3) := by decide +kernel
theorem dX11_again_21 : decode cX11_again 21 = .ok (.bipush (-3), 2) := by decide +kernel
theorem dX11_again_23 : decode cX11_again 23 = .ok (.ireturn, 1) := by decide +kernel
theorem dX11_again_24 : decode cX11_again 24 = .ok (.iconst 0, 1) := by decide +kernel
theorem dX11_again_25 : decode cX11_again 25 = .ok (.istore_n 2, 1) := by decide +kernel
theorem dX11_again_26 : decode cX11_again 26 = .ok (.iload_n 2, 1) := by decide +kernel
theorem dX11_again_27 : decode cX11_again 27 = .ok (.bipush 50, 2) := by decide +kernel
theorem dX11_again_29 : decode cX11_again 29 = .ok (.if_icmp .ge 26, 3) := by decide +kernel
theorem dX11_again_32 : decode cX11_again 32 = .ok (.aload_n 0, 1) := by decide +kernel
theorem dX11_again_33 : decode cX11_again 33 = .ok (.getfield 13, 3) := by decide +kernel
theorem dX11_again_36 : decode cX11_again 36 = .ok (.iload_n 2, 1) := by decide +kernel
theorem dX11_again_37 : decode cX11_again 37 = .ok (.aload_n 0, 1) := by decide +kernel
theorem dX11_again_38 : decode cX11_again 38 = .ok (.getfield 54, 3) := by decide +kernel
theorem dX11_again_41 : decode cX11_again 41 = .ok (.bipush 50, 2) := by decide +kernel
theorem dX11_again_43 : decode cX11_again 43 = .ok (.iload_n 1, 1) := by decide +kernel
theorem dX11_again_44 : decode cX11_again 44 = .ok (.imul, 1) := by decide +kernel
theorem dX11_again_45 : decode cX11_again 45 = .ok (.iload_n 2, 1) := by decide +kernel
theorem dX11_again_46 : decode cX11_again 46 = .ok (.iadd, 1) := by decide +kernel
theorem dX11_again_47 : decode cX11_again 47 = .ok (.iaload, 1) := by decide +kernel
theorem dX11_again_48 : decode cX11_again 48 = .ok (.iastore, 1) := by decide +kernel
theorem dX11_again_49 : decode cX11_again 49 = .ok (.iinc 2 1, 3) := by decide +kernel
theorem dX11_again_52 : decode cX11_again 52 = .ok (.goto (-26), 3) := by decide +kernel
theorem dX11_again_55 : decode cX11_again 55 = .ok (.aload_n 0, 1) := by decide +kernel
theorem dX11_again_56 : decode cX11_again 56 = .ok (.iconst 0, 1) := by decide +kernel
theorem dX11_again_57 : decode cX11_again 57 = .ok (.putfield 96, 3) := by decide +kernel
theorem dX11_again_60 : decode cX11_again 60 = .ok (.aload_n 0, 1) := by decide +kernel
theorem dX11_again_61 : decode cX11_again 61 = .ok (.iconst 0, 1) := by decide +kernel
theorem dX11_again_62 : decode cX11_again 62 = .ok (.invokevirtual 66, 3) := by decide +kernel
theorem dX11_again_65 : decode cX11_again 65 = .ok (.ireturn, 1) := by decide +kernel
set_option maxRecDepth 20000 in
theorem ggX11_greatestDepth_X11_depthOf : GoodIn wsX11_greatestDepth wsX11_depthOf := goodIn_r _ [5, 6, 7, 8, 9, 4, 10, 11, 12, 13, 14, 15, 16, 17, 18, 19, 20, 21, 22, 23, 24, 25, 26, 27, 28, 29, 30, 31, 32, 33, 34, 35] (by decide +kernel) (by decide +kernel)
set_option maxRecDepth 20000 in
theorem gX11_greatestDepth_X11_depthOf : GoodIn wsX11_greatestDepth (wsV RX11 130 RX11 yX11_depthOf wsX11_depthOf) := goodIn_app (goodIn_of _ (by decide +kernel)) ggX11_greatestDepth_X11_depthOf
theorem dX11_greatestDepth_0 : decode cX11_greatestDepth 0 = .ok (.iconst 0, 1) := by decide +kernel
theorem dX11_greatestDepth_1 : decode cX11_greatestDepth 1 = .ok (.istore_n 1, 1) := by decide +kernel
theorem dX11_greatestDepth_2 : decode cX11_greatestDepth 2 = .ok (.iconst 0, 1) := by decide +kernel
theorem dX11_greatestDepth_3 : decode cX11_greatestDepth 3 = .ok (.istore_n 2, 1) := by decide +kernel
theorem dX11_greatestDepth_4 : decode cX11_greatestDepth 4 = .ok (.iload_n 2, 1) := by decide +kernel
theorem dX11_greatestDepth_5 : decode cX11_greatestDepth 5 = .ok (.bipush 8, 2) := by decide +kernel
theorem dX11_greatestDepth_7 : decode cX11_greatestDepth 7 = .ok (.if_icmp .ge 28, 3) := by decide +kernel
theorem dX11_greatestDepth_10 : decode cX11_greatestDepth 10 = .ok (.aload_n 0, 1) := by decide +kernel
theorem dX11_greatestDepth_11 : decode cX11_greatestDepth 11 = .ok (.iload_n 2, 1) := by decide +kernel
theorem dX11_greatestDepth_12 : decode cX11_greatestDepth 12 = .ok (.invokevirtual 130, 3) := by decide +kernel
theorem dX11_greatestDepth_15 : decode cX11_greatestDepth 15 = .ok (.iload_n 1, 1) := by decide +kernel
theorem dX11_greatestDepth_16 : decode cX11_greatestDepth 16 = .ok (.if_icmp .le 11, 3) := by decide +kernel
theorem dX11_greatestDepth_19 : decode cX11_greatestDepth 19 = .ok (.aload_n 0, 1) := by decide +kernel
theorem dX11_greatestDepth_20 : decode cX11_greatestDepth 20 = .ok (.iload_n 2, 1) := by decide +kernel
theorem dX11_greatestDepth_21 : decode cX11_greatestDepth 21 = .ok (.invokevirtual 130, 3) := by decide +kernel
theorem dX11_greatestDepth_24 : decode cX11_greatestDepth 24 = .ok (.goto 4, 3) := by decide +kernel
theorem dX11_greatestDepth_27 : decode cX11_greatestDepth 27 = .ok (.iload_n 1, 1) := by decide +kernel
theorem dX11_greatestDepth_28 : decode cX11_greatestDepth 28 = .ok (.istore_n 1, 1) := by decide +kernel
theorem dX11_greatestDepth_29 : decode cX11_greatestDepth 29 = .ok (.iinc 2 1, 3) := by decide +kernel
theorem dX11_greatestDepth_32 : decode cX11_greatestDepth 32 = .ok (.goto (-28), 3) := by decide +kernel
theorem dX11_greatestDepth_35 : decode cX11_greatestDepth 35 = .ok (.iload_n 1, 1) := by decide +kernel
theorem dX11_greatestDepth_36 : decode cX11_greatestDepth 36 = .ok (.ireturn, 1) := by decide +kernel
set_option maxRecDepth 20000 in
theorem ggX11_edgesReached_X11_many : GoodIn wsX11_edgesReached wsX11_many := goodIn_r _ [6, 7, 15, 16, 17, 18, 19, 20, 21, 22, 23, 24, 25, 26, 27, 28, 29, 30, 31, 32, 33, 34, 35, 36] (by decide +kernel) (by decide +kernel)
set_option maxRecDepth 20000 in
theorem gX11_edgesReached_X11_many : GoodIn wsX11_edgesReached (wsV RX11 66 RX11 yX11_many wsX11_many) := goodIn_app (goodIn_of _ (by decide +kernel)) ggX11_edgesReached_X11_many
set_option maxRecDepth 20000 in
theorem ggX11_edgesReached_X11_fromOf : GoodIn wsX11_edgesReached wsX11_fromOf := goodIn_r _ [11, 7, 15, 16, 17, 18, 19, 20, 21, 22, 23, 24, 25, 26, 27, 28, 29, 30, 31, 32, 33, 34, 35, 36] (by decide +kernel) (by decide +kernel)
set_option maxRecDepth 20000 in
theorem gX11_edgesReached_X11_fromOf : GoodIn wsX11_edgesReached (wsV RX11 70 RX11 yX11_fromOf wsX11_fromOf) := goodIn_app (goodIn_of _ (by decide +kernel)) ggX11_edgesReached_X11_fromOf
set_option maxRecDepth 20000 in
theorem ggX11_edgesReached_X11_has : GoodIn wsX11_edgesReached wsX11_has := goodIn_r _ [14] (by decide +kernel) (by decide +kernel)
set_option maxRecDepth 20000 in
theorem gX11_edgesReached_X11_has : GoodIn wsX11_edgesReached (va_wsS RX11 102 yX11_has wsX11_has) := goodIn_app (goodIn_of _ (by decide +kernel)) ggX11_edgesReached_X11_has
theorem dX11_edgesReached_0 : decode cX11_edgesReached 0 = .ok (.iconst 0, 1) := by decide +kernel
theorem dX11_edgesReached_1 : decode cX11_edgesReached 1 = .ok (.istore_n 1, 1) := by decide +kernel
theorem dX11_edgesReached_2 : decode cX11_edgesReached 2 = .ok (.iconst 0, 1) := by decide +kernel
theorem dX11_edgesReached_3 : decode cX11_edgesReached 3 = .ok (.istore_n 2, 1) := by decide +kernel
theorem dX11_edgesReached_4 : decode cX11_edgesReached 4 = .ok (.iload_n 2, 1) := by decide +kernel
theorem dX11_edgesReached_5 : decode cX11_edgesReached 5 = .ok (.aload_n 0, 1) := by decide +kernel
theorem dX11_edgesReached_6 : decode cX11_edgesReached 6 = .ok (.iconst 0, 1) := by decide +kernel
theorem dX11_edgesReached_7 : decode cX11_edgesReached 7 = .ok (.invokevirtual 66, 3) := by decide +kernel
theorem dX11_edgesReached_10 : decode cX11_edgesReached 10 = .ok (.if_icmp .ge 33, 3) := by decide +kernel
theorem dX11_edgesReached_13 : decode cX11_edgesReached 13 = .ok (.iload_n 1, 1) := by decide +kernel
theorem dX11_edgesReached_14 : decode cX11_edgesReached 14 = .ok (.aload_n 0, 1) := by decide +kernel
theorem dX11_edgesReached_15 : decode cX11_edgesReached 15 = .ok (.getfield 110, 3) := by decide +kernel
theorem dX11_edgesReached_18 : decode cX11_edgesReached 18 = .ok (.aload_n 0, 1) := by decide +kernel
theorem dX11_edgesReached_19 : decode cX11_edgesReached 19 = .ok (.iconst 0, 1) := by decide +kernel
theorem dX11_edgesReached_20 : decode cX11_edgesReached 20 = .ok (.iload_n 2, 1) := by decide +kernel
theorem dX11_edgesReached_21 : decode cX11_edgesReached 21 = .ok (.invokevirtual 70, 3) := by decide +kernel
theorem dX11_edgesReached_24 : decode cX11_edgesReached 24 = .ok (.invokestatic 102, 3) := by decide +kernel
theorem dX11_edgesReached_27 : decode cX11_edgesReached 27 = .ok (.ifCond .eq 7, 3) := by decide +kernel
theorem dX11_edgesReached_30 : decode cX11_edgesReached 30 = .ok (.iconst 1, 1) := by decide +kernel
theorem dX11_edgesReached_31 : decode cX11_edgesReached 31 = .ok (.goto 4, 3) := by decide +kernel
theorem dX11_edgesReached_34 : decode cX11_edgesReached 34 = .ok (.iconst 0, 1) := by decide +kernel
theorem dX11_edgesReached_35 : decode cX11_edgesReached 35 = .ok (.iadd, 1) := by decide +kernel
theorem dX11_edgesReached_36 : decode cX11_edgesReached 36 = .ok (.istore_n 1, 1) := by decide +kernel
theorem dX11_edgesReached_37 : decode cX11_edgesReached 37 = .ok (.iinc 2 1, 3) := by decide +kernel
theorem dX11_edgesReached_40 : decode cX11_edgesReached 40 = .ok (.goto (-36), 3) := by decide +kernel
theorem dX11_edgesReached_43 : decode cX11_edgesReached 43 = .ok (.iload_n 1, 1) := by decide +kernel
theorem dX11_edgesReached_44 : decode cX11_edgesReached 44 = .ok (.ireturn, 1) := by decide +kernel
set_option maxRecDepth 20000 in
theorem ggX11_count_X11_findCovers : GoodIn wsX11_count wsX11_findCovers := goodIn_r _ [11, 3, 12, 13, 14, 15, 10, 16, 17, 18, 19, 20, 4, 21, 22, 23, 24, 25, 26, 27, 28, 29, 30, 31, 51, 52, 53, 54, 55, 56, 57, 58, 59, 60, 61, 62, 63, 64, 65, 66, 67, 68, 69, 70, 71, 72] (by decide +kernel) (by decide +kernel)
set_option maxRecDepth 20000 in
theorem gX11_count_X11_findCovers : GoodIn wsX11_count (wsV RX11 120 RX11 yX11_findCovers wsX11_findCovers) := goodIn_app (goodIn_of _ (by decide +kernel)) ggX11_count_X11_findCovers
set_option maxRecDepth 20000 in
theorem ggX11_count_X11_many : GoodIn wsX11_count wsX11_many := goodIn_r _ [20, 4, 51, 52, 53, 54, 55, 56, 57, 58, 59, 60, 61, 62, 63, 64, 65, 66, 67, 68, 69, 70, 71, 72] (by decide +kernel) (by decide +kernel)
set_option maxRecDepth 20000 in
theorem gX11_count_X11_many : GoodIn wsX11_count (wsV RX11 66 RX11 yX11_many wsX11_many) := goodIn_app (goodIn_of _ (by decide +kernel)) ggX11_count_X11_many
set_option maxRecDepth 20000 in
theorem ggX11_count_X11_ones : GoodIn wsX11_count wsX11_ones := goodIn_r _ [34] (by decide +kernel) (by decide +kernel)
set_option maxRecDepth 20000 in
theorem gX11_count_X11_ones : GoodIn wsX11_count (va_wsS RX11 113 yX11_ones wsX11_ones) := goodIn_app (goodIn_of _ (by decide +kernel)) ggX11_count_X11_ones
set_option maxRecDepth 20000 in
theorem ggX11_count_X11_depthsTogether : GoodIn wsX11_count wsX11_depthsTogether := goodIn_r _ [38, 3, 29, 30, 10, 31, 39, 40, 41, 42, 12, 32, 33, 34, 51, 52, 53, 54, 55, 56, 57, 58, 59, 60, 61, 62, 63, 64, 65, 66, 67, 68, 69, 70, 71, 72] (by decide +kernel) (by decide +kernel)
set_option maxRecDepth 20000 in
theorem gX11_count_X11_depthsTogether : GoodIn wsX11_count (wsV RX11 204 RX11 yX11_depthsTogether wsX11_depthsTogether) := goodIn_app (goodIn_of _ (by decide +kernel)) ggX11_count_X11_depthsTogether
set_option maxRecDepth 20000 in
theorem ggX11_count_X11_greatestDepth : GoodIn wsX11_count wsX11_greatestDepth := goodIn_r _ [46, 39, 40, 41, 10, 42, 3, 12, 29, 30, 31, 32, 33, 34, 51, 52, 53, 54, 55, 56, 57, 58, 59, 60, 61, 62, 63, 64, 65, 66, 67, 68, 69, 70, 71, 72] (by decide +kernel) (by decide +kernel)
set_option maxRecDepth 20000 in
theorem gX11_count_X11_greatestDepth : GoodIn wsX11_count (wsV RX11 207 RX11 yX11_greatestDepth wsX11_greatestDepth) := goodIn_app (goodIn_of _ (by decide +kernel)) ggX11_count_X11_greatestDepth
set_option maxRecDepth 20000 in
theorem ggX11_count_X11_edgesReached : GoodIn wsX11_count wsX11_edgesReached := goodIn_r _ [50, 3, 17, 18, 19, 10, 20, 4, 21, 22, 23, 24, 29, 30, 31, 51, 52, 53, 54, 55, 56, 57, 58, 59, 60, 61, 62, 63, 64, 65, 66, 67, 68, 69, 70, 71, 72] (by decide +kernel) (by decide +kernel)
set_option maxRecDepth 20000 in
theorem gX11_count_X11_edgesReached : GoodIn wsX11_count (wsV RX11 210 RX11 yX11_edgesReached wsX11_edgesReached) := goodIn_app (goodIn_of _ (by decide +kernel)) ggX11_count_X11_edgesReached
theorem dX11_count_0 : decode cX11_count 0 = .ok (.aload_n 0, 1) := by decide +kernel
theorem dX11_count_1 : decode cX11_count 1 = .ok (.iconst 0, 1) := by decide +kernel
theorem dX11_count_2 : decode cX11_count 2 = .ok (.invokevirtual 120, 3) := by decide +kernel
theorem dX11_count_5 : decode cX11_count 5 = .ok (.iload_n 1, 1) := by decide +kernel
theorem dX11_count_6 : decode cX11_count 6 = .ok (.tableswitch 110 0 9 #[54, 59, 64, 70, 78, 83, 88, 95, 100, 105], 54) := by decide +kernel
theorem dX11_count_60 : decode cX11_count 60 = .ok (.aload_n 0, 1) := by decide +kernel
theorem dX11_count_61 : decode cX11_count 61 = .ok (.getfield 63, 3) := by decide +kernel
theorem dX11_count_64 : decode cX11_count 64 = .ok (.ireturn, 1) := by decide +kernel
theorem dX11_count_65 : decode cX11_count 65 = .ok (.aload_n 0, 1) := by decide +kernel
theorem dX11_count_66 : decode cX11_count 66 = .ok (.getfield 7, 3) := by decide +kernel
theorem dX11_count_69 : decode cX11_count 69 = .ok (.ireturn, 1) := by decide +kernel
theorem dX11_count_70 : decode cX11_count 70 = .ok (.aload_n 0, 1) := by decide +kernel
theorem dX11_count_71 : decode cX11_count 71 = .ok (.iconst 0, 1) := by decide +kernel
theorem dX11_count_72 : decode cX11_count 72 = .ok (.invokevirtual 66, 3) := by decide +kernel
theorem dX11_count_75 : decode cX11_count 75 = .ok (.ireturn, 1) := by decide +kernel
theorem dX11_count_76 : decode cX11_count 76 = .ok (.aload_n 0, 1) := by decide +kernel
theorem dX11_count_77 : decode cX11_count 77 = .ok (.getfield 110, 3) := by decide +kernel
theorem dX11_count_80 : decode cX11_count 80 = .ok (.invokestatic 113, 3) := by decide +kernel
theorem dX11_count_83 : decode cX11_count 83 = .ok (.ireturn, 1) := by decide +kernel
theorem dX11_count_84 : decode cX11_count 84 = .ok (.aload_n 0, 1) := by decide +kernel
theorem dX11_count_85 : decode cX11_count 85 = .ok (.invokevirtual 204, 3) := by decide +kernel
theorem dX11_count_88 : decode cX11_count 88 = .ok (.ireturn, 1) := by decide +kernel
theorem dX11_count_89 : decode cX11_count 89 = .ok (.aload_n 0, 1) := by decide +kernel
theorem dX11_count_90 : decode cX11_count 90 = .ok (.invokevirtual 207, 3) := by decide +kernel
theorem dX11_count_93 : decode cX11_count 93 = .ok (.ireturn, 1) := by decide +kernel
theorem dX11_count_94 : decode cX11_count 94 = .ok (.aload_n 0, 1) := by decide +kernel
theorem dX11_count_95 : decode cX11_count 95 = .ok (.getfield 13, 3) := by decide +kernel
theorem dX11_count_98 : decode cX11_count 98 = .ok (.iconst 1, 1) := by decide +kernel
theorem dX11_count_99 : decode cX11_count 99 = .ok (.iaload, 1) := by decide +kernel
theorem dX11_count_100 : decode cX11_count 100 = .ok (.ireturn, 1) := by decide +kernel
theorem dX11_count_101 : decode cX11_count 101 = .ok (.aload_n 0, 1) := by decide +kernel
theorem dX11_count_102 : decode cX11_count 102 = .ok (.invokevirtual 210, 3) := by decide +kernel
theorem dX11_count_105 : decode cX11_count 105 = .ok (.ireturn, 1) := by decide +kernel
theorem dX11_count_106 : decode cX11_count 106 = .ok (.aload_n 0, 1) := by decide +kernel
theorem dX11_count_107 : decode cX11_count 107 = .ok (.getfield 96, 3) := by decide +kernel
theorem dX11_count_110 : decode cX11_count 110 = .ok (.ireturn, 1) := by decide +kernel
theorem dX11_count_111 : decode cX11_count 111 = .ok (.aload_n 0, 1) := by decide +kernel
theorem dX11_count_112 : decode cX11_count 112 = .ok (.getfield 180, 3) := by decide +kernel
theorem dX11_count_115 : decode cX11_count 115 = .ok (.ireturn, 1) := by decide +kernel
theorem dX11_count_116 : decode cX11_count 116 = .ok (.bipush (-2), 2) := by decide +kernel
theorem dX11_count_118 : decode cX11_count 118 = .ok (.ireturn, 1) := by decide +kernel
theorem dJ6_bitCount_0f7a4_0 : decode cJ6_bitCount_0f7a4 0 = .ok (.iload_n 0, 1) := by decide +kernel
theorem dJ6_bitCount_0f7a4_1 : decode cJ6_bitCount_0f7a4 1 = .ok (.iload_n 0, 1) := by decide +kernel
theorem dJ6_bitCount_0f7a4_2 : decode cJ6_bitCount_0f7a4 2 = .ok (.iconst 1, 1) := by decide +kernel
theorem dJ6_bitCount_0f7a4_3 : decode cJ6_bitCount_0f7a4 3 = .ok (.iushr, 1) := by decide +kernel
theorem dJ6_bitCount_0f7a4_4 : decode cJ6_bitCount_0f7a4 4 = .ok (.ldc_w 265, 3) := by decide +kernel
theorem dJ6_bitCount_0f7a4_7 : decode cJ6_bitCount_0f7a4 7 = .ok (.iand, 1) := by decide +kernel
theorem dJ6_bitCount_0f7a4_8 : decode cJ6_bitCount_0f7a4 8 = .ok (.isub, 1) := by decide +kernel
theorem dJ6_bitCount_0f7a4_9 : decode cJ6_bitCount_0f7a4 9 = .ok (.istore_n 0, 1) := by decide +kernel
theorem dJ6_bitCount_0f7a4_10 : decode cJ6_bitCount_0f7a4 10 = .ok (.iload_n 0, 1) := by decide +kernel
theorem dJ6_bitCount_0f7a4_11 : decode cJ6_bitCount_0f7a4 11 = .ok (.ldc_w 266, 3) := by decide +kernel
theorem dJ6_bitCount_0f7a4_14 : decode cJ6_bitCount_0f7a4 14 = .ok (.iand, 1) := by decide +kernel
theorem dJ6_bitCount_0f7a4_15 : decode cJ6_bitCount_0f7a4 15 = .ok (.iload_n 0, 1) := by decide +kernel
theorem dJ6_bitCount_0f7a4_16 : decode cJ6_bitCount_0f7a4 16 = .ok (.iconst 2, 1) := by decide +kernel
theorem dJ6_bitCount_0f7a4_17 : decode cJ6_bitCount_0f7a4 17 = .ok (.iushr, 1) := by decide +kernel
theorem dJ6_bitCount_0f7a4_18 : decode cJ6_bitCount_0f7a4 18 = .ok (.ldc_w 266, 3) := by decide +kernel
theorem dJ6_bitCount_0f7a4_21 : decode cJ6_bitCount_0f7a4 21 = .ok (.iand, 1) := by decide +kernel
theorem dJ6_bitCount_0f7a4_22 : decode cJ6_bitCount_0f7a4 22 = .ok (.iadd, 1) := by decide +kernel
theorem dJ6_bitCount_0f7a4_23 : decode cJ6_bitCount_0f7a4 23 = .ok (.istore_n 0, 1) := by decide +kernel
theorem dJ6_bitCount_0f7a4_24 : decode cJ6_bitCount_0f7a4 24 = .ok (.iload_n 0, 1) := by decide +kernel
theorem dJ6_bitCount_0f7a4_25 : decode cJ6_bitCount_0f7a4 25 = .ok (.iload_n 0, 1) := by decide +kernel
theorem dJ6_bitCount_0f7a4_26 : decode cJ6_bitCount_0f7a4 26 = .ok (.iconst 4, 1) := by decide +kernel
theorem dJ6_bitCount_0f7a4_27 : decode cJ6_bitCount_0f7a4 27 = .ok (.iushr, 1) := by decide +kernel
theorem dJ6_bitCount_0f7a4_28 : decode cJ6_bitCount_0f7a4 28 = .ok (.iadd, 1) := by decide +kernel
theorem dJ6_bitCount_0f7a4_29 : decode cJ6_bitCount_0f7a4 29 = .ok (.ldc_w 267, 3) := by decide +kernel
theorem dJ6_bitCount_0f7a4_32 : decode cJ6_bitCount_0f7a4 32 = .ok (.iand, 1) := by decide +kernel
theorem dJ6_bitCount_0f7a4_33 : decode cJ6_bitCount_0f7a4 33 = .ok (.istore_n 0, 1) := by decide +kernel
theorem dJ6_bitCount_0f7a4_34 : decode cJ6_bitCount_0f7a4 34 = .ok (.iload_n 0, 1) := by decide +kernel
theorem dJ6_bitCount_0f7a4_35 : decode cJ6_bitCount_0f7a4 35 = .ok (.iload_n 0, 1) := by decide +kernel
theorem dJ6_bitCount_0f7a4_36 : decode cJ6_bitCount_0f7a4 36 = .ok (.bipush 8, 2) := by decide +kernel
theorem dJ6_bitCount_0f7a4_38 : decode cJ6_bitCount_0f7a4 38 = .ok (.iushr, 1) := by decide +kernel
theorem dJ6_bitCount_0f7a4_39 : decode cJ6_bitCount_0f7a4 39 = .ok (.iadd, 1) := by decide +kernel
theorem dJ6_bitCount_0f7a4_40 : decode cJ6_bitCount_0f7a4 40 = .ok (.istore_n 0, 1) := by decide +kernel
theorem dJ6_bitCount_0f7a4_41 : decode cJ6_bitCount_0f7a4 41 = .ok (.iload_n 0, 1) := by decide +kernel
theorem dJ6_bitCount_0f7a4_42 : decode cJ6_bitCount_0f7a4 42 = .ok (.iload_n 0, 1) := by decide +kernel
theorem dJ6_bitCount_0f7a4_43 : decode cJ6_bitCount_0f7a4 43 = .ok (.bipush 16, 2) := by decide +kernel
theorem dJ6_bitCount_0f7a4_45 : decode cJ6_bitCount_0f7a4 45 = .ok (.iushr, 1) := by decide +kernel
theorem dJ6_bitCount_0f7a4_46 : decode cJ6_bitCount_0f7a4 46 = .ok (.iadd, 1) := by decide +kernel
theorem dJ6_bitCount_0f7a4_47 : decode cJ6_bitCount_0f7a4 47 = .ok (.istore_n 0, 1) := by decide +kernel
theorem dJ6_bitCount_0f7a4_48 : decode cJ6_bitCount_0f7a4 48 = .ok (.iload_n 0, 1) := by decide +kernel
theorem dJ6_bitCount_0f7a4_49 : decode cJ6_bitCount_0f7a4 49 = .ok (.bipush 63, 2) := by decide +kernel
theorem dJ6_bitCount_0f7a4_51 : decode cJ6_bitCount_0f7a4 51 = .ok (.iand, 1) := by decide +kernel
theorem dJ6_bitCount_0f7a4_52 : decode cJ6_bitCount_0f7a4 52 = .ok (.ireturn, 1) := by decide +kernel
theorem dJ13_bitCount_95d88_0 : decode cJ13_bitCount_95d88 0 = .ok (.lload_n 0, 1) := by decide +kernel
theorem dJ13_bitCount_95d88_1 : decode cJ13_bitCount_95d88 1 = .ok (.lload_n 0, 1) := by decide +kernel
theorem dJ13_bitCount_95d88_2 : decode cJ13_bitCount_95d88 2 = .ok (.iconst 1, 1) := by decide +kernel
theorem dJ13_bitCount_95d88_3 : decode cJ13_bitCount_95d88 3 = .ok (.lushr, 1) := by decide +kernel
theorem dJ13_bitCount_95d88_4 : decode cJ13_bitCount_95d88 4 = .ok (.ldc2_w 314, 3) := by decide +kernel
theorem dJ13_bitCount_95d88_7 : decode cJ13_bitCount_95d88 7 = .ok (.land, 1) := by decide +kernel
theorem dJ13_bitCount_95d88_8 : decode cJ13_bitCount_95d88 8 = .ok (.lsub, 1) := by decide +kernel
theorem dJ13_bitCount_95d88_9 : decode cJ13_bitCount_95d88 9 = .ok (.lstore_n 0, 1) := by decide +kernel
theorem dJ13_bitCount_95d88_10 : decode cJ13_bitCount_95d88 10 = .ok (.lload_n 0, 1) := by decide +kernel
theorem dJ13_bitCount_95d88_11 : decode cJ13_bitCount_95d88 11 = .ok (.ldc2_w 316, 3) := by decide +kernel
theorem dJ13_bitCount_95d88_14 : decode cJ13_bitCount_95d88 14 = .ok (.land, 1) := by decide +kernel
theorem dJ13_bitCount_95d88_15 : decode cJ13_bitCount_95d88 15 = .ok (.lload_n 0, 1) := by decide +kernel
theorem dJ13_bitCount_95d88_16 : decode cJ13_bitCount_95d88 16 = .ok (.iconst 2, 1) := by decide +kernel
theorem dJ13_bitCount_95d88_17 : decode cJ13_bitCount_95d88 17 = .ok (.lushr, 1) := by decide +kernel
theorem dJ13_bitCount_95d88_18 : decode cJ13_bitCount_95d88 18 = .ok (.ldc2_w 316, 3) := by decide +kernel
theorem dJ13_bitCount_95d88_21 : decode cJ13_bitCount_95d88 21 = .ok (.land, 1) := by decide +kernel
theorem dJ13_bitCount_95d88_22 : decode cJ13_bitCount_95d88 22 = .ok (.ladd, 1) := by decide +kernel
theorem dJ13_bitCount_95d88_23 : decode cJ13_bitCount_95d88 23 = .ok (.lstore_n 0, 1) := by decide +kernel
theorem dJ13_bitCount_95d88_24 : decode cJ13_bitCount_95d88 24 = .ok (.lload_n 0, 1) := by decide +kernel
theorem dJ13_bitCount_95d88_25 : decode cJ13_bitCount_95d88 25 = .ok (.lload_n 0, 1) := by decide +kernel
theorem dJ13_bitCount_95d88_26 : decode cJ13_bitCount_95d88 26 = .ok (.iconst 4, 1) := by decide +kernel
theorem dJ13_bitCount_95d88_27 : decode cJ13_bitCount_95d88 27 = .ok (.lushr, 1) := by decide +kernel
theorem dJ13_bitCount_95d88_28 : decode cJ13_bitCount_95d88 28 = .ok (.ladd, 1) := by decide +kernel
theorem dJ13_bitCount_95d88_29 : decode cJ13_bitCount_95d88 29 = .ok (.ldc2_w 318, 3) := by decide +kernel
theorem dJ13_bitCount_95d88_32 : decode cJ13_bitCount_95d88 32 = .ok (.land, 1) := by decide +kernel
theorem dJ13_bitCount_95d88_33 : decode cJ13_bitCount_95d88 33 = .ok (.lstore_n 0, 1) := by decide +kernel
theorem dJ13_bitCount_95d88_34 : decode cJ13_bitCount_95d88 34 = .ok (.lload_n 0, 1) := by decide +kernel
theorem dJ13_bitCount_95d88_35 : decode cJ13_bitCount_95d88 35 = .ok (.lload_n 0, 1) := by decide +kernel
theorem dJ13_bitCount_95d88_36 : decode cJ13_bitCount_95d88 36 = .ok (.bipush 8, 2) := by decide +kernel
theorem dJ13_bitCount_95d88_38 : decode cJ13_bitCount_95d88 38 = .ok (.lushr, 1) := by decide +kernel
theorem dJ13_bitCount_95d88_39 : decode cJ13_bitCount_95d88 39 = .ok (.ladd, 1) := by decide +kernel
theorem dJ13_bitCount_95d88_40 : decode cJ13_bitCount_95d88 40 = .ok (.lstore_n 0, 1) := by decide +kernel
theorem dJ13_bitCount_95d88_41 : decode cJ13_bitCount_95d88 41 = .ok (.lload_n 0, 1) := by decide +kernel
theorem dJ13_bitCount_95d88_42 : decode cJ13_bitCount_95d88 42 = .ok (.lload_n 0, 1) := by decide +kernel
theorem dJ13_bitCount_95d88_43 : decode cJ13_bitCount_95d88 43 = .ok (.bipush 16, 2) := by decide +kernel
theorem dJ13_bitCount_95d88_45 : decode cJ13_bitCount_95d88 45 = .ok (.lushr, 1) := by decide +kernel
theorem dJ13_bitCount_95d88_46 : decode cJ13_bitCount_95d88 46 = .ok (.ladd, 1) := by decide +kernel
theorem dJ13_bitCount_95d88_47 : decode cJ13_bitCount_95d88 47 = .ok (.lstore_n 0, 1) := by decide +kernel
theorem dJ13_bitCount_95d88_48 : decode cJ13_bitCount_95d88 48 = .ok (.lload_n 0, 1) := by decide +kernel
theorem dJ13_bitCount_95d88_49 : decode cJ13_bitCount_95d88 49 = .ok (.lload_n 0, 1) := by decide +kernel
theorem dJ13_bitCount_95d88_50 : decode cJ13_bitCount_95d88 50 = .ok (.bipush 32, 2) := by decide +kernel
theorem dJ13_bitCount_95d88_52 : decode cJ13_bitCount_95d88 52 = .ok (.lushr, 1) := by decide +kernel
theorem dJ13_bitCount_95d88_53 : decode cJ13_bitCount_95d88 53 = .ok (.ladd, 1) := by decide +kernel
theorem dJ13_bitCount_95d88_54 : decode cJ13_bitCount_95d88 54 = .ok (.lstore_n 0, 1) := by decide +kernel
theorem dJ13_bitCount_95d88_55 : decode cJ13_bitCount_95d88 55 = .ok (.lload_n 0, 1) := by decide +kernel
theorem dJ13_bitCount_95d88_56 : decode cJ13_bitCount_95d88 56 = .ok (.l2i, 1) := by decide +kernel
theorem dJ13_bitCount_95d88_57 : decode cJ13_bitCount_95d88 57 = .ok (.bipush 127, 2) := by decide +kernel
theorem dJ13_bitCount_95d88_59 : decode cJ13_bitCount_95d88 59 = .ok (.iand, 1) := by decide +kernel
theorem dJ13_bitCount_95d88_60 : decode cJ13_bitCount_95d88 60 = .ok (.ireturn, 1) := by decide +kernel
theorem dJ9_max_7cf53_0 : decode cJ9_max_7cf53 0 = .ok (.iload_n 0, 1) := by decide +kernel
theorem dJ9_max_7cf53_1 : decode cJ9_max_7cf53 1 = .ok (.iload_n 1, 1) := by decide +kernel
theorem dJ9_max_7cf53_2 : decode cJ9_max_7cf53 2 = .ok (.if_icmp .lt 7, 3) := by decide +kernel
theorem dJ9_max_7cf53_5 : decode cJ9_max_7cf53 5 = .ok (.iload_n 0, 1) := by decide +kernel
theorem dJ9_max_7cf53_6 : decode cJ9_max_7cf53 6 = .ok (.goto 4, 3) := by decide +kernel
theorem dJ9_max_7cf53_9 : decode cJ9_max_7cf53 9 = .ok (.iload_n 1, 1) := by decide +kernel
theorem dJ9_max_7cf53_10 : decode cJ9_max_7cf53 10 = .ok (.ireturn, 1) := by decide +kernel
theorem dJ9_min_7cf53_0 : decode cJ9_min_7cf53 0 = .ok (.iload_n 0, 1) := by decide +kernel
theorem dJ9_min_7cf53_1 : decode cJ9_min_7cf53 1 = .ok (.iload_n 1, 1) := by decide +kernel
theorem dJ9_min_7cf53_2 : decode cJ9_min_7cf53 2 = .ok (.if_icmp .gt 7, 3) := by decide +kernel
theorem dJ9_min_7cf53_5 : decode cJ9_min_7cf53 5 = .ok (.iload_n 0, 1) := by decide +kernel
theorem dJ9_min_7cf53_6 : decode cJ9_min_7cf53 6 = .ok (.goto 4, 3) := by decide +kernel
theorem dJ9_min_7cf53_9 : decode cJ9_min_7cf53 9 = .ok (.iload_n 1, 1) := by decide +kernel
theorem dJ9_min_7cf53_10 : decode cJ9_min_7cf53 10 = .ok (.ireturn, 1) := by decide +kernel
