set_option maxRecDepth 20000 in
theorem ggX10_init_X8_init : GoodIn wsX10_init wsX8_init := goodIn_r _ [37, 38, 2, 3, 39, 19, 20, 40, 41, 42, 43, 44, 45, 46, 47, 48, 49, 50, 103, 104, 84] (by decide +kernel) (by decide +kernel)
set_option maxRecDepth 20000 in
theorem gX10_init_X8_init_n9 : GoodIn wsX10_init (wsX8_init) := ggX10_init_X8_init
set_option maxRecDepth 20000 in
theorem ggX10_init_X3_init : GoodIn wsX10_init wsX3_init := goodIn_r _ [52, 53, 2, 3, 54, 19, 20, 55, 56, 57, 58, 42, 43, 44, 45, 46, 47, 48, 49, 50, 103, 104, 98, 99, 100] (by decide +kernel) (by decide +kernel)
set_option maxRecDepth 20000 in
theorem gX10_init_X3_init_n18 : GoodIn wsX10_init (wsX3_init) := ggX10_init_X3_init
set_option maxRecDepth 20000 in
theorem ggX10_init_X0_init : GoodIn wsX10_init wsX0_init := goodIn_r _ [60, 61, 2, 3, 62, 19, 20, 63, 64, 65, 42, 43, 44, 45, 46, 47, 48, 49, 50, 103, 104, 101, 102] (by decide +kernel) (by decide +kernel)
set_option maxRecDepth 20000 in
theorem gX10_init_X0_init_n28 : GoodIn wsX10_init (wsX0_init) := ggX10_init_X0_init
set_option maxRecDepth 20000 in
theorem ggX10_init_X6_init : GoodIn wsX10_init wsX6_init := goodIn_r _ [43, 44, 2, 3, 45, 46, 47, 48, 49, 50, 103, 104] (by decide +kernel) (by decide +kernel)
set_option maxRecDepth 20000 in
theorem gX10_init_X6_init : GoodIn wsX10_init (wsX6_init) := ggX10_init_X6_init
set_option maxRecDepth 20000 in
theorem ggX10_init_X2_init : GoodIn wsX10_init wsX2_init := goodIn_r _ [68, 69, 2, 3] (by decide +kernel) (by decide +kernel)
set_option maxRecDepth 20000 in
theorem gX10_init_X2_init_n48 : GoodIn wsX10_init (wsX2_init) := ggX10_init_X2_init
set_option maxRecDepth 20000 in
theorem ggX10_init_X9_init : GoodIn wsX10_init wsX9_init := goodIn_r _ [71, 72, 2, 3, 73, 19, 20, 74, 75, 76, 42, 43, 44, 45, 46, 47, 48, 49, 50, 103, 104, 109, 110, 111] (by decide +kernel) (by decide +kernel)
set_option maxRecDepth 20000 in
theorem gX10_init_X9_init_n58 : GoodIn wsX10_init (wsX9_init) := ggX10_init_X9_init
set_option maxRecDepth 20000 in
theorem ggX10_init_X7_init : GoodIn wsX10_init wsX7_init := goodIn_r _ [78, 79, 2, 3, 80, 19, 20, 81, 82, 83, 42, 43, 44, 45, 46, 47, 48, 49, 50, 103, 104, 112, 113] (by decide +kernel) (by decide +kernel)
set_option maxRecDepth 20000 in
theorem gX10_init_X7_init_n65 : GoodIn wsX10_init (wsX7_init) := ggX10_init_X7_init
theorem dX10_init_0 : decode cX10_init 0 = .ok (.aload_n 0, 1) := by decide +kernel
theorem dX10_init_1 : decode cX10_init 1 = .ok (.invokespecial 1, 3) := by decide +kernel
theorem dX10_init_4 : decode cX10_init 4 = .ok (.aload_n 0, 1) := by decide +kernel
theorem dX10_init_5 : decode cX10_init 5 = .ok (.new 7, 3) := by decide +kernel
theorem dX10_init_8 : decode cX10_init 8 = .ok (.dup, 1) := by decide +kernel
theorem dX10_init_9 : decode cX10_init 9 = .ok (.invokespecial 9, 3) := by decide +kernel
theorem dX10_init_12 : decode cX10_init 12 = .ok (.putfield 10, 3) := by decide +kernel
theorem dX10_init_15 : decode cX10_init 15 = .ok (.aload_n 0, 1) := by decide +kernel
theorem dX10_init_16 : decode cX10_init 16 = .ok (.new 16, 3) := by decide +kernel
theorem dX10_init_19 : decode cX10_init 19 = .ok (.dup, 1) := by decide +kernel
theorem dX10_init_20 : decode cX10_init 20 = .ok (.invokespecial 18, 3) := by decide +kernel
theorem dX10_init_23 : decode cX10_init 23 = .ok (.putfield 19, 3) := by decide +kernel
theorem dX10_init_26 : decode cX10_init 26 = .ok (.aload_n 0, 1) := by decide +kernel
theorem dX10_init_27 : decode cX10_init 27 = .ok (.new 16, 3) := by decide +kernel
theorem dX10_init_30 : decode cX10_init 30 = .ok (.dup, 1) := by decide +kernel
theorem dX10_init_31 : decode cX10_init 31 = .ok (.invokespecial 18, 3) := by decide +kernel
theorem dX10_init_34 : decode cX10_init 34 = .ok (.putfield 23, 3) := by decide +kernel
theorem dX10_init_37 : decode cX10_init 37 = .ok (.aload_n 0, 1) := by decide +kernel
theorem dX10_init_38 : decode cX10_init 38 = .ok (.new 26, 3) := by decide +kernel
theorem dX10_init_41 : decode cX10_init 41 = .ok (.dup, 1) := by decide +kernel
theorem dX10_init_42 : decode cX10_init 42 = .ok (.invokespecial 28, 3) := by decide +kernel
theorem dX10_init_45 : decode cX10_init 45 = .ok (.putfield 29, 3) := by decide +kernel
theorem dX10_init_48 : decode cX10_init 48 = .ok (.aload_n 0, 1) := by decide +kernel
theorem dX10_init_49 : decode cX10_init 49 = .ok (.iconst 2, 1) := by decide +kernel
theorem dX10_init_50 : decode cX10_init 50 = .ok (.anewarray 16, 3) := by decide +kernel
theorem dX10_init_53 : decode cX10_init 53 = .ok (.dup, 1) := by decide +kernel
theorem dX10_init_54 : decode cX10_init 54 = .ok (.iconst 0, 1) := by decide +kernel
theorem dX10_init_55 : decode cX10_init 55 = .ok (.new 16, 3) := by decide +kernel
theorem dX10_init_58 : decode cX10_init 58 = .ok (.dup, 1) := by decide +kernel
theorem dX10_init_59 : decode cX10_init 59 = .ok (.invokespecial 18, 3) := by decide +kernel
theorem dX10_init_62 : decode cX10_init 62 = .ok (.aastore, 1) := by decide +kernel
theorem dX10_init_63 : decode cX10_init 63 = .ok (.dup, 1) := by decide +kernel
theorem dX10_init_64 : decode cX10_init 64 = .ok (.iconst 1, 1) := by decide +kernel
theorem dX10_init_65 : decode cX10_init 65 = .ok (.new 16, 3) := by decide +kernel
theorem dX10_init_68 : decode cX10_init 68 = .ok (.dup, 1) := by decide +kernel
theorem dX10_init_69 : decode cX10_init 69 = .ok (.invokespecial 18, 3) := by decide +kernel
theorem dX10_init_72 : decode cX10_init 72 = .ok (.aastore, 1) := by decide +kernel
theorem dX10_init_73 : decode cX10_init 73 = .ok (.putfield 33, 3) := by decide +kernel
theorem dX10_init_76 : decode cX10_init 76 = .ok (.aload_n 0, 1) := by decide +kernel
theorem dX10_init_77 : decode cX10_init 77 = .ok (.new 37, 3) := by decide +kernel
theorem dX10_init_80 : decode cX10_init 80 = .ok (.dup, 1) := by decide +kernel
theorem dX10_init_81 : decode cX10_init 81 = .ok (.bipush 6, 2) := by decide +kernel
theorem dX10_init_83 : decode cX10_init 83 = .ok (.invokespecial 39, 3) := by decide +kernel
theorem dX10_init_86 : decode cX10_init 86 = .ok (.putfield 42, 3) := by decide +kernel
theorem dX10_init_89 : decode cX10_init 89 = .ok (.aload_n 0, 1) := by decide +kernel
theorem dX10_init_90 : decode cX10_init 90 = .ok (.new 46, 3) := by decide +kernel
theorem dX10_init_93 : decode cX10_init 93 = .ok (.dup, 1) := by decide +kernel
theorem dX10_init_94 : decode cX10_init 94 = .ok (.invokespecial 48, 3) := by decide +kernel
theorem dX10_init_97 : decode cX10_init 97 = .ok (.putfield 49, 3) := by decide +kernel
theorem dX10_init_100 : decode cX10_init 100 = .ok (.aload_n 0, 1) := by decide +kernel
theorem dX10_init_101 : decode cX10_init 101 = .ok (.new 46, 3) := by decide +kernel
theorem dX10_init_104 : decode cX10_init 104 = .ok (.dup, 1) := by decide +kernel
theorem dX10_init_105 : decode cX10_init 105 = .ok (.invokespecial 48, 3) := by decide +kernel
theorem dX10_init_108 : decode cX10_init 108 = .ok (.putfield 53, 3) := by decide +kernel
theorem dX10_init_111 : decode cX10_init 111 = .ok (.aload_n 0, 1) := by decide +kernel
theorem dX10_init_112 : decode cX10_init 112 = .ok (.new 56, 3) := by decide +kernel
theorem dX10_init_115 : decode cX10_init 115 = .ok (.dup, 1) := by decide +kernel
theorem dX10_init_116 : decode cX10_init 116 = .ok (.invokespecial 58, 3) := by decide +kernel
theorem dX10_init_119 : decode cX10_init 119 = .ok (.putfield 59, 3) := by decide +kernel
theorem dX10_init_122 : decode cX10_init 122 = .ok (.aload_n 0, 1) := by decide +kernel
theorem dX10_init_123 : decode cX10_init 123 = .ok (.new 63, 3) := by decide +kernel
theorem dX10_init_126 : decode cX10_init 126 = .ok (.dup, 1) := by decide +kernel
theorem dX10_init_127 : decode cX10_init 127 = .ok (.invokespecial 65, 3) := by decide +kernel
theorem dX10_init_130 : decode cX10_init 130 = .ok (.putfield 66, 3) := by decide +kernel
theorem dX10_init_133 : decode cX10_init 133 = .ok (.aload_n 0, 1) := by decide +kernel
theorem dX10_init_134 : decode cX10_init 134 = .ok (.new 37, 3) := by decide +kernel
theorem dX10_init_137 : decode cX10_init 137 = .ok (.dup, 1) := by decide +kernel
theorem dX10_init_138 : decode cX10_init 138 = .ok (.bipush 8, 2) := by decide +kernel
theorem dX10_init_140 : decode cX10_init 140 = .ok (.invokespecial 39, 3) := by decide +kernel
theorem dX10_init_143 : decode cX10_init 143 = .ok (.putfield 70, 3) := by decide +kernel
theorem dX10_init_146 : decode cX10_init 146 = .ok (.return_, 1) := by decide +kernel
set_option maxRecDepth 20000 in
theorem ggX10_write_X8_isFull : GoodIn wsX10_write wsX8_isFull := goodIn_r _ [6, 7, 8, 9, 10, 11, 12, 13, 14, 49, 50, 51] (by decide +kernel) (by decide +kernel)
set_option maxRecDepth 20000 in
theorem gX10_write_X8_isFull : GoodIn wsX10_write (wsV RX10 73 RX8 yX8_isFull wsX8_isFull) := goodIn_app (goodIn_of _ (by decide +kernel)) ggX10_write_X8_isFull
set_option maxRecDepth 20000 in
theorem ggX10_write_X8_add : GoodIn wsX10_write wsX8_add := goodIn_r _ [18, 7, 19, 20, 21, 11, 22, 13, 23, 24, 25, 26, 14, 27, 9, 10, 12, 49, 50, 51] (by decide +kernel) (by decide +kernel)
set_option maxRecDepth 20000 in
theorem gX10_write_X8_add : GoodIn wsX10_write (wsV RX10 77 RX8 yX8_add wsX8_add) := goodIn_app (goodIn_of _ (by decide +kernel)) ggX10_write_X8_add
set_option maxRecDepth 20000 in
theorem ggX10_write_X8_length : GoodIn wsX10_write wsX8_length := goodIn_r _ [31, 7, 32, 33, 34, 11, 35, 13, 49, 50, 51] (by decide +kernel) (by decide +kernel)
set_option maxRecDepth 20000 in
theorem gX10_write_X8_length : GoodIn wsX10_write (wsV RX10 80 RX8 yX8_length wsX8_length) := goodIn_app (goodIn_of _ (by decide +kernel)) ggX10_write_X8_length
theorem dX10_write_0 : decode cX10_write 0 = .ok (.iload_n 1, 1) := by decide +kernel
theorem dX10_write_1 : decode cX10_write 1 = .ok (.ifCond .lt 10, 3) := by decide +kernel
theorem dX10_write_4 : decode cX10_write 4 = .ok (.iload_n 1, 1) := by decide +kernel
theorem dX10_write_5 : decode cX10_write 5 = .ok (.sipush 255, 3) := by decide +kernel
theorem dX10_write_8 : decode cX10_write 8 = .ok (.if_icmp .le 6, 3) := by decide +kernel
theorem dX10_write_11 : decode cX10_write 11 = .ok (.bipush (-2), 2) := by decide +kernel
theorem dX10_write_13 : decode cX10_write 13 = .ok (.ireturn, 1) := by decide +kernel
theorem dX10_write_14 : decode cX10_write 14 = .ok (.aload_n 0, 1) := by decide +kernel
theorem dX10_write_15 : decode cX10_write 15 = .ok (.getfield 10, 3) := by decide +kernel
theorem dX10_write_18 : decode cX10_write 18 = .ok (.invokevirtual 73, 3) := by decide +kernel
theorem dX10_write_21 : decode cX10_write 21 = .ok (.ifCond .eq 6, 3) := by decide +kernel
theorem dX10_write_24 : decode cX10_write 24 = .ok (.bipush (-4), 2) := by decide +kernel
theorem dX10_write_26 : decode cX10_write 26 = .ok (.ireturn, 1) := by decide +kernel
theorem dX10_write_27 : decode cX10_write 27 = .ok (.aload_n 0, 1) := by decide +kernel
theorem dX10_write_28 : decode cX10_write 28 = .ok (.getfield 10, 3) := by decide +kernel
theorem dX10_write_31 : decode cX10_write 31 = .ok (.iload_n 1, 1) := by decide +kernel
theorem dX10_write_32 : decode cX10_write 32 = .ok (.invokevirtual 77, 3) := by decide +kernel
theorem dX10_write_35 : decode cX10_write 35 = .ok (.aload_n 0, 1) := by decide +kernel
theorem dX10_write_36 : decode cX10_write 36 = .ok (.getfield 10, 3) := by decide +kernel
theorem dX10_write_39 : decode cX10_write 39 = .ok (.invokevirtual 80, 3) := by decide +kernel
theorem dX10_write_42 : decode cX10_write 42 = .ok (.ireturn, 1) := by decide +kernel
set_option maxRecDepth 20000 in
theorem ggX10_wipe_X8_length : GoodIn wsX10_wipe wsX8_length := goodIn_r _ [6, 7, 8, 9, 10, 11, 12, 13, 35, 36, 37] (by decide +kernel) (by decide +kernel)
set_option maxRecDepth 20000 in
theorem gX10_wipe_X8_length : GoodIn wsX10_wipe (wsV RX10 80 RX8 yX8_length wsX8_length) := goodIn_app (goodIn_of _ (by decide +kernel)) ggX10_wipe_X8_length
set_option maxRecDepth 20000 in
theorem ggX10_wipe_X8_clear : GoodIn wsX10_wipe wsX8_clear := goodIn_r _ [17, 7, 18, 19, 20, 11, 21, 13, 35, 36, 37] (by decide +kernel) (by decide +kernel)
set_option maxRecDepth 20000 in
theorem gX10_wipe_X8_clear : GoodIn wsX10_wipe (wsV RX10 84 RX8 yX8_clear wsX8_clear) := goodIn_app (goodIn_of _ (by decide +kernel)) ggX10_wipe_X8_clear
theorem dX10_wipe_0 : decode cX10_wipe 0 = .ok (.aload_n 0, 1) := by decide +kernel
theorem dX10_wipe_1 : decode cX10_wipe 1 = .ok (.getfield 10, 3) := by decide +kernel
theorem dX10_wipe_4 : decode cX10_wipe 4 = .ok (.invokevirtual 80, 3) := by decide +kernel
theorem dX10_wipe_7 : decode cX10_wipe 7 = .ok (.istore_n 1, 1) := by decide +kernel
theorem dX10_wipe_8 : decode cX10_wipe 8 = .ok (.aload_n 0, 1) := by decide +kernel
theorem dX10_wipe_9 : decode cX10_wipe 9 = .ok (.getfield 10, 3) := by decide +kernel
theorem dX10_wipe_12 : decode cX10_wipe 12 = .ok (.invokevirtual 84, 3) := by decide +kernel
theorem dX10_wipe_15 : decode cX10_wipe 15 = .ok (.iload_n 1, 1) := by decide +kernel
theorem dX10_wipe_16 : decode cX10_wipe 16 = .ok (.ireturn, 1) := by decide +kernel
set_option maxRecDepth 20000 in
theorem ggX10_fault_X8_firstFault : GoodIn wsX10_fault wsX8_firstFault := goodIn_r _ [6, 7, 8, 9, 5, 10, 11, 12, 13, 14, 15, 16, 17, 18, 19, 20, 21, 22, 23, 24, 25, 26, 27, 28, 29, 30, 31, 32, 33, 34, 35, 36, 37, 38, 39, 40, 41, 42, 43, 44, 45, 46, 47, 48, 49, 50, 51, 52, 53, 54, 55, 56, 57, 71, 72, 73] (by decide +kernel) (by decide +kernel)
set_option maxRecDepth 20000 in
theorem gX10_fault_X8_firstFault : GoodIn wsX10_fault (wsV RX10 87 RX8 yX8_firstFault wsX8_firstFault) := goodIn_app (goodIn_of _ (by decide +kernel)) ggX10_fault_X8_firstFault
theorem dX10_fault_0 : decode cX10_fault 0 = .ok (.aload_n 0, 1) := by decide +kernel
theorem dX10_fault_1 : decode cX10_fault 1 = .ok (.getfield 10, 3) := by decide +kernel
theorem dX10_fault_4 : decode cX10_fault 4 = .ok (.invokevirtual 87, 3) := by decide +kernel
theorem dX10_fault_7 : decode cX10_fault 7 = .ok (.ireturn, 1) := by decide +kernel
set_option maxRecDepth 20000 in
theorem ggX10_graph_X8_firstFault : GoodIn wsX10_graph wsX8_firstFault := goodIn_r _ [9, 10, 11, 12, 8, 13, 14, 15, 16, 17, 18, 19, 20, 21, 22, 23, 24, 25, 26, 27, 28, 29, 30, 31, 32, 33, 34, 35, 36, 37, 38, 39, 40, 41, 42, 43, 44, 45, 46, 47, 48, 49, 50, 51, 52, 53, 54, 55, 56, 57, 58, 59, 60, 129, 130, 131] (by decide +kernel) (by decide +kernel)
set_option maxRecDepth 20000 in
theorem gX10_graph_X8_firstFault : GoodIn wsX10_graph (wsV RX10 87 RX8 yX8_firstFault wsX8_firstFault) := goodIn_app (goodIn_of _ (by decide +kernel)) ggX10_graph_X8_firstFault
set_option maxRecDepth 20000 in
theorem ggX10_graph_X8_readInto : GoodIn wsX10_graph wsX8_readInto := goodIn_r _ [64, 30, 31, 32, 8, 33, 14, 25, 26, 27, 18, 28, 20, 29, 65, 66, 67, 68, 69, 70, 71, 72, 73, 74, 75, 76, 77, 78, 79, 80, 81, 82, 83, 10, 11, 12, 13, 15, 16, 17, 19, 84, 85, 86, 87, 88, 89, 90, 91, 92, 93, 94, 95, 96, 97, 98, 99, 100, 101, 102, 129, 130, 131, 132, 133, 134] (by decide +kernel) (by decide +kernel)
set_option maxRecDepth 20000 in
theorem gX10_graph_X8_readInto : GoodIn wsX10_graph (wsV RX10 90 RX8 yX8_readInto wsX8_readInto) := goodIn_app (goodIn_of _ (by decide +kernel)) ggX10_graph_X8_readInto
set_option maxRecDepth 20000 in
theorem ggX10_graph_X0_clear : GoodIn wsX10_graph wsX0_clear := goodIn_r _ [107, 108, 109, 110, 81, 82, 18, 83, 20, 135, 136, 130, 131] (by decide +kernel) (by decide +kernel)
set_option maxRecDepth 20000 in
theorem gX10_graph_X0_clear : GoodIn wsX10_graph (wsV RX10 94 RX0 yX0_clear wsX0_clear) := goodIn_app (goodIn_of _ (by decide +kernel)) ggX10_graph_X0_clear
set_option maxRecDepth 20000 in
theorem ggX10_graph_X3_size : GoodIn wsX10_graph wsX3_size := goodIn_r _ [114, 78, 115, 16, 17, 18, 19, 20, 132, 133, 134, 130, 131] (by decide +kernel) (by decide +kernel)
set_option maxRecDepth 20000 in
theorem gX10_graph_X3_size : GoodIn wsX10_graph (wsV RX10 99 RX3 yX3_size wsX3_size) := goodIn_app (goodIn_of _ (by decide +kernel)) ggX10_graph_X3_size
theorem dX10_graph_0 : decode cX10_graph 0 = .ok (.aload_n 0, 1) := by decide +kernel
theorem dX10_graph_1 : decode cX10_graph 1 = .ok (.getfield 10, 3) := by decide +kernel
theorem dX10_graph_4 : decode cX10_graph 4 = .ok (.invokevirtual 87, 3) := by decide +kernel
theorem dX10_graph_7 : decode cX10_graph 7 = .ok (.bipush (-9), 2) := by decide +kernel
theorem dX10_graph_9 : decode cX10_graph 9 = .ok (.if_icmp .eq 6, 3) := by decide +kernel
theorem dX10_graph_12 : decode cX10_graph 12 = .ok (.bipush (-3), 2) := by decide +kernel
theorem dX10_graph_14 : decode cX10_graph 14 = .ok (.ireturn, 1) := by decide +kernel
theorem dX10_graph_15 : decode cX10_graph 15 = .ok (.aload_n 0, 1) := by decide +kernel
theorem dX10_graph_16 : decode cX10_graph 16 = .ok (.getfield 10, 3) := by decide +kernel
theorem dX10_graph_19 : decode cX10_graph 19 = .ok (.aload_n 0, 1) := by decide +kernel
theorem dX10_graph_20 : decode cX10_graph 20 = .ok (.getfield 19, 3) := by decide +kernel
theorem dX10_graph_23 : decode cX10_graph 23 = .ok (.invokevirtual 90, 3) := by decide +kernel
theorem dX10_graph_26 : decode cX10_graph 26 = .ok (.aload_n 0, 1) := by decide +kernel
theorem dX10_graph_27 : decode cX10_graph 27 = .ok (.getfield 29, 3) := by decide +kernel
theorem dX10_graph_30 : decode cX10_graph 30 = .ok (.invokevirtual 94, 3) := by decide +kernel
theorem dX10_graph_33 : decode cX10_graph 33 = .ok (.aload_n 0, 1) := by decide +kernel
theorem dX10_graph_34 : decode cX10_graph 34 = .ok (.iconst 0, 1) := by decide +kernel
theorem dX10_graph_35 : decode cX10_graph 35 = .ok (.putfield 95, 3) := by decide +kernel
theorem dX10_graph_38 : decode cX10_graph 38 = .ok (.aload_n 0, 1) := by decide +kernel
theorem dX10_graph_39 : decode cX10_graph 39 = .ok (.getfield 19, 3) := by decide +kernel
theorem dX10_graph_42 : decode cX10_graph 42 = .ok (.invokevirtual 99, 3) := by decide +kernel
theorem dX10_graph_45 : decode cX10_graph 45 = .ok (.ireturn, 1) := by decide +kernel
set_option maxRecDepth 20000 in
theorem ggX10_insert_X3_areKnots : GoodIn wsX10_insert wsX3_areKnots := goodIn_r _ [7, 8, 9, 10, 6, 11, 12, 91, 92, 93] (by decide +kernel) (by decide +kernel)
set_option maxRecDepth 20000 in
theorem gX10_insert_X3_areKnots : GoodIn wsX10_insert (wsV RX10 102 RX3 yX3_areKnots wsX3_areKnots) := goodIn_app (goodIn_of _ (by decide +kernel)) ggX10_insert_X3_areKnots
set_option maxRecDepth 20000 in
theorem ggX10_insert_X3_has : GoodIn wsX10_insert wsX3_has := goodIn_r _ [16, 17, 18, 19, 6, 20, 21, 22, 23, 24, 25, 26, 27, 28, 29, 30, 31, 32, 33, 34, 35, 36, 37, 38, 91, 92, 93, 94, 95] (by decide +kernel) (by decide +kernel)
set_option maxRecDepth 20000 in
theorem gX10_insert_X3_has : GoodIn wsX10_insert (wsV RX10 106 RX3 yX3_has wsX3_has) := goodIn_app (goodIn_of _ (by decide +kernel)) ggX10_insert_X3_has
set_option maxRecDepth 20000 in
theorem ggX10_insert_X3_isFull : GoodIn wsX10_insert wsX3_isFull := goodIn_r _ [42, 21, 43, 44, 45, 25, 46, 27, 32, 91, 92, 93, 94, 95] (by decide +kernel) (by decide +kernel)
set_option maxRecDepth 20000 in
theorem gX10_insert_X3_isFull : GoodIn wsX10_insert (wsV RX10 109 RX3 yX3_isFull wsX3_isFull) := goodIn_app (goodIn_of _ (by decide +kernel)) ggX10_insert_X3_isFull
set_option maxRecDepth 20000 in
theorem ggX10_insert_X3_append : GoodIn wsX10_insert wsX3_append := goodIn_r _ [50, 51, 21, 36, 37, 6, 38, 52, 53, 54, 25, 55, 27, 56, 57, 58, 59, 32, 60, 44, 45, 46, 91, 92, 93, 94, 95] (by decide +kernel) (by decide +kernel)
set_option maxRecDepth 20000 in
theorem gX10_insert_X3_append : GoodIn wsX10_insert (wsV RX10 110 RX3 yX3_append wsX3_append) := goodIn_app (goodIn_of _ (by decide +kernel)) ggX10_insert_X3_append
set_option maxRecDepth 20000 in
theorem ggX10_insert_X0_addInserted : GoodIn wsX10_insert wsX0_addInserted := goodIn_r _ [65, 66, 67, 68, 64, 69, 70, 71, 72, 44, 45, 25, 46, 27, 32, 73, 74, 75, 76, 77, 53, 54, 55, 56, 57, 58, 59, 60, 96, 97, 94, 95] (by decide +kernel) (by decide +kernel)
set_option maxRecDepth 20000 in
theorem gX10_insert_X0_addInserted : GoodIn wsX10_insert (wsV RX10 114 RX0 yX0_addInserted wsX0_addInserted) := goodIn_app (goodIn_of _ (by decide +kernel)) ggX10_insert_X0_addInserted
theorem dX10_insert_0 : decode cX10_insert 0 = .ok (.aload_n 0, 1) := by decide +kernel
theorem dX10_insert_1 : decode cX10_insert 1 = .ok (.getfield 19, 3) := by decide +kernel
theorem dX10_insert_4 : decode cX10_insert 4 = .ok (.iload_n 1, 1) := by decide +kernel
theorem dX10_insert_5 : decode cX10_insert 5 = .ok (.iload_n 2, 1) := by decide +kernel
theorem dX10_insert_6 : decode cX10_insert 6 = .ok (.invokevirtual 102, 3) := by decide +kernel
theorem dX10_insert_9 : decode cX10_insert 9 = .ok (.ifCond .ne 5, 3) := by decide +kernel
theorem dX10_insert_12 : decode cX10_insert 12 = .ok (.iconst (-1), 1) := by decide +kernel
theorem dX10_insert_13 : decode cX10_insert 13 = .ok (.ireturn, 1) := by decide +kernel
theorem dX10_insert_14 : decode cX10_insert 14 = .ok (.iload_n 1, 1) := by decide +kernel
theorem dX10_insert_15 : decode cX10_insert 15 = .ok (.iload_n 2, 1) := by decide +kernel
theorem dX10_insert_16 : decode cX10_insert 16 = .ok (.if_icmp .ne 6, 3) := by decide +kernel
theorem dX10_insert_19 : decode cX10_insert 19 = .ok (.bipush (-2), 2) := by decide +kernel
theorem dX10_insert_21 : decode cX10_insert 21 = .ok (.ireturn, 1) := by decide +kernel
theorem dX10_insert_22 : decode cX10_insert 22 = .ok (.aload_n 0, 1) := by decide +kernel
theorem dX10_insert_23 : decode cX10_insert 23 = .ok (.getfield 19, 3) := by decide +kernel
theorem dX10_insert_26 : decode cX10_insert 26 = .ok (.iload_n 1, 1) := by decide +kernel
theorem dX10_insert_27 : decode cX10_insert 27 = .ok (.iload_n 2, 1) := by decide +kernel
theorem dX10_insert_28 : decode cX10_insert 28 = .ok (.invokevirtual 106, 3) := by decide +kernel
theorem dX10_insert_31 : decode cX10_insert 31 = .ok (.ifCond .eq 6, 3) := by decide +kernel
theorem dX10_insert_34 : decode cX10_insert 34 = .ok (.bipush (-3), 2) := by decide +kernel
theorem dX10_insert_36 : decode cX10_insert 36 = .ok (.ireturn, 1) := by decide +kernel
theorem dX10_insert_37 : decode cX10_insert 37 = .ok (.aload_n 0, 1) := by decide +kernel
theorem dX10_insert_38 : decode cX10_insert 38 = .ok (.getfield 19, 3) := by decide +kernel
theorem dX10_insert_41 : decode cX10_insert 41 = .ok (.invokevirtual 109, 3) := by decide +kernel
theorem dX10_insert_44 : decode cX10_insert 44 = .ok (.ifCond .eq 6, 3) := by decide +kernel
theorem dX10_insert_47 : decode cX10_insert 47 = .ok (.bipush (-4), 2) := by decide +kernel
theorem dX10_insert_49 : decode cX10_insert 49 = .ok (.ireturn, 1) := by decide +kernel
theorem dX10_insert_50 : decode cX10_insert 50 = .ok (.aload_n 0, 1) := by decide +kernel
theorem dX10_insert_51 : decode cX10_insert 51 = .ok (.getfield 19, 3) := by decide +kernel
theorem dX10_insert_54 : decode cX10_insert 54 = .ok (.iload_n 1, 1) := by decide +kernel
theorem dX10_insert_55 : decode cX10_insert 55 = .ok (.iload_n 2, 1) := by decide +kernel
theorem dX10_insert_56 : decode cX10_insert 56 = .ok (.invokevirtual 110, 3) := by decide +kernel
theorem dX10_insert_59 : decode cX10_insert 59 = .ok (.istore_n 3, 1) := by decide +kernel
theorem dX10_insert_60 : decode cX10_insert 60 = .ok (.aload_n 0, 1) := by decide +kernel
theorem dX10_insert_61 : decode cX10_insert 61 = .ok (.getfield 29, 3) := by decide +kernel
theorem dX10_insert_64 : decode cX10_insert 64 = .ok (.invokevirtual 114, 3) := by decide +kernel
theorem dX10_insert_67 : decode cX10_insert 67 = .ok (.iload_n 3, 1) := by decide +kernel
theorem dX10_insert_68 : decode cX10_insert 68 = .ok (.ireturn, 1) := by decide +kernel
set_option maxRecDepth 20000 in
theorem ggX10_delete_X3_areKnots : GoodIn wsX10_delete wsX3_areKnots := goodIn_r _ [7, 8, 9, 10, 6, 11, 12, 85, 86, 87] (by decide +kernel) (by decide +kernel)
set_option maxRecDepth 20000 in
theorem gX10_delete_X3_areKnots : GoodIn wsX10_delete (wsV RX10 102 RX3 yX3_areKnots wsX3_areKnots) := goodIn_app (goodIn_of _ (by decide +kernel)) ggX10_delete_X3_areKnots
set_option maxRecDepth 20000 in
theorem ggX10_delete_X3_has : GoodIn wsX10_delete wsX3_has := goodIn_r _ [16, 17, 18, 19, 6, 20, 21, 22, 23, 24, 25, 26, 27, 28, 29, 30, 31, 32, 33, 34, 35, 36, 37, 38, 85, 86, 87, 88, 89] (by decide +kernel) (by decide +kernel)
set_option maxRecDepth 20000 in
theorem gX10_delete_X3_has : GoodIn wsX10_delete (wsV RX10 106 RX3 yX3_has wsX3_has) := goodIn_app (goodIn_of _ (by decide +kernel)) ggX10_delete_X3_has
set_option maxRecDepth 20000 in
theorem ggX10_delete_X3_placeOf : GoodIn wsX10_delete wsX3_placeOf := goodIn_r _ [20, 21, 22, 23, 24, 25, 26, 27, 28, 29, 30, 31, 32, 33, 34, 6, 35, 36, 37, 38, 85, 86, 87, 88, 89] (by decide +kernel) (by decide +kernel)
set_option maxRecDepth 20000 in
theorem gX10_delete_X3_placeOf : GoodIn wsX10_delete (wsV RX10 117 RX3 yX3_placeOf wsX3_placeOf) := goodIn_app (goodIn_of _ (by decide +kernel)) ggX10_delete_X3_placeOf
set_option maxRecDepth 20000 in
theorem ggX10_delete_X3_takeOut : GoodIn wsX10_delete wsX3_takeOut := goodIn_r _ [43, 21, 44, 45, 46, 25, 47, 27, 32, 85, 86, 87, 88, 89] (by decide +kernel) (by decide +kernel)
set_option maxRecDepth 20000 in
theorem gX10_delete_X3_takeOut : GoodIn wsX10_delete (wsV RX10 120 RX3 yX3_takeOut wsX3_takeOut) := goodIn_app (goodIn_of _ (by decide +kernel)) ggX10_delete_X3_takeOut
set_option maxRecDepth 20000 in
theorem ggX10_delete_X0_addDeleted : GoodIn wsX10_delete wsX0_addDeleted := goodIn_r _ [52, 53, 54, 55, 56, 57, 25, 58, 27, 32, 59, 45, 46, 47, 60, 61, 62, 63, 64, 65, 66, 67, 68, 90, 91, 88, 89] (by decide +kernel) (by decide +kernel)
set_option maxRecDepth 20000 in
theorem gX10_delete_X0_addDeleted : GoodIn wsX10_delete (wsV RX10 124 RX0 yX0_addDeleted wsX0_addDeleted) := goodIn_app (goodIn_of _ (by decide +kernel)) ggX10_delete_X0_addDeleted
set_option maxRecDepth 20000 in
theorem ggX10_delete_X3_stampOf : GoodIn wsX10_delete wsX3_stampOf := goodIn_r _ [71] (by decide +kernel) (by decide +kernel)
set_option maxRecDepth 20000 in
theorem gX10_delete_X3_stampOf : GoodIn wsX10_delete (va_wsS RX10 128 yX3_stampOf wsX3_stampOf) := goodIn_app (goodIn_of _ (by decide +kernel)) ggX10_delete_X3_stampOf
theorem dX10_delete_0 : decode cX10_delete 0 = .ok (.aload_n 0, 1) := by decide +kernel
theorem dX10_delete_1 : decode cX10_delete 1 = .ok (.getfield 19, 3) := by decide +kernel
theorem dX10_delete_4 : decode cX10_delete 4 = .ok (.iload_n 1, 1) := by decide +kernel
theorem dX10_delete_5 : decode cX10_delete 5 = .ok (.iload_n 2, 1) := by decide +kernel
theorem dX10_delete_6 : decode cX10_delete 6 = .ok (.invokevirtual 102, 3) := by decide +kernel
theorem dX10_delete_9 : decode cX10_delete 9 = .ok (.ifCond .ne 5, 3) := by decide +kernel
theorem dX10_delete_12 : decode cX10_delete 12 = .ok (.iconst (-1), 1) := by decide +kernel
theorem dX10_delete_13 : decode cX10_delete 13 = .ok (.ireturn, 1) := by decide +kernel
theorem dX10_delete_14 : decode cX10_delete 14 = .ok (.aload_n 0, 1) := by decide +kernel
theorem dX10_delete_15 : decode cX10_delete 15 = .ok (.getfield 19, 3) := by decide +kernel
theorem dX10_delete_18 : decode cX10_delete 18 = .ok (.iload_n 1, 1) := by decide +kernel
theorem dX10_delete_19 : decode cX10_delete 19 = .ok (.iload_n 2, 1) := by decide +kernel
theorem dX10_delete_20 : decode cX10_delete 20 = .ok (.invokevirtual 106, 3) := by decide +kernel
theorem dX10_delete_23 : decode cX10_delete 23 = .ok (.ifCond .ne 6, 3) := by decide +kernel
theorem dX10_delete_26 : decode cX10_delete 26 = .ok (.bipush (-3), 2) := by decide +kernel
theorem dX10_delete_28 : decode cX10_delete 28 = .ok (.ireturn, 1) := by decide +kernel
theorem dX10_delete_29 : decode cX10_delete 29 = .ok (.aload_n 0, 1) := by decide +kernel
theorem dX10_delete_30 : decode cX10_delete 30 = .ok (.getfield 19, 3) := by decide +kernel
theorem dX10_delete_33 : decode cX10_delete 33 = .ok (.iload_n 1, 1) := by decide +kernel
theorem dX10_delete_34 : decode cX10_delete 34 = .ok (.iload_n 2, 1) := by decide +kernel
theorem dX10_delete_35 : decode cX10_delete 35 = .ok (.invokevirtual 117, 3) := by decide +kernel
theorem dX10_delete_38 : decode cX10_delete 38 = .ok (.istore_n 3, 1) := by decide +kernel
theorem dX10_delete_39 : decode cX10_delete 39 = .ok (.aload_n 0, 1) := by decide +kernel
theorem dX10_delete_40 : decode cX10_delete 40 = .ok (.getfield 19, 3) := by decide +kernel
theorem dX10_delete_43 : decode cX10_delete 43 = .ok (.iload_n 3, 1) := by decide +kernel
theorem dX10_delete_44 : decode cX10_delete 44 = .ok (.invokevirtual 120, 3) := by decide +kernel
theorem dX10_delete_47 : decode cX10_delete 47 = .ok (.istore 4, 2) := by decide +kernel
theorem dX10_delete_49 : decode cX10_delete 49 = .ok (.aload_n 0, 1) := by decide +kernel
theorem dX10_delete_50 : decode cX10_delete 50 = .ok (.getfield 29, 3) := by decide +kernel
theorem dX10_delete_53 : decode cX10_delete 53 = .ok (.iload_n 3, 1) := by decide +kernel
theorem dX10_delete_54 : decode cX10_delete 54 = .ok (.iload 4, 2) := by decide +kernel
theorem dX10_delete_56 : decode cX10_delete 56 = .ok (.invokevirtual 124, 3) := by decide +kernel
theorem dX10_delete_59 : decode cX10_delete 59 = .ok (.iload 4, 2) := by decide +kernel
theorem dX10_delete_61 : decode cX10_delete 61 = .ok (.invokestatic 128, 3) := by decide +kernel
theorem dX10_delete_64 : decode cX10_delete 64 = .ok (.ireturn, 1) := by decide +kernel
set_option maxRecDepth 20000 in
theorem ggX10_undo_X0_size : GoodIn wsX10_undo wsX0_size := goodIn_r _ [7, 8, 9, 10, 11, 12, 13, 14, 62, 63, 64, 65] (by decide +kernel) (by decide +kernel)
set_option maxRecDepth 20000 in
theorem gX10_undo_X0_size : GoodIn wsX10_undo (wsV RX10 131 RX0 yX0_size wsX0_size) := goodIn_app (goodIn_of _ (by decide +kernel)) ggX10_undo_X0_size
set_option maxRecDepth 20000 in
theorem ggX10_undo_X0_undoLast : GoodIn wsX10_undo wsX0_undoLast := goodIn_r _ [18, 8, 19, 20, 21, 22, 12, 23, 14, 24, 25, 26, 27, 28, 29, 30, 31, 32, 33, 34, 35, 36, 37, 38, 39, 40, 41, 42, 43, 44, 45, 46, 47, 48, 62, 63, 64, 65, 66, 67, 68] (by decide +kernel) (by decide +kernel)
set_option maxRecDepth 20000 in
theorem gX10_undo_X0_undoLast : GoodIn wsX10_undo (wsV RX10 132 RX0 yX0_undoLast wsX0_undoLast) := goodIn_app (goodIn_of _ (by decide +kernel)) ggX10_undo_X0_undoLast
theorem dX10_undo_0 : decode cX10_undo 0 = .ok (.aload_n 0, 1) := by decide +kernel
theorem dX10_undo_1 : decode cX10_undo 1 = .ok (.getfield 29, 3) := by decide +kernel
theorem dX10_undo_4 : decode cX10_undo 4 = .ok (.invokevirtual 131, 3) := by decide +kernel
theorem dX10_undo_7 : decode cX10_undo 7 = .ok (.ifCond .ne 6, 3) := by decide +kernel
theorem dX10_undo_10 : decode cX10_undo 10 = .ok (.bipush (-3), 2) := by decide +kernel
theorem dX10_undo_12 : decode cX10_undo 12 = .ok (.ireturn, 1) := by decide +kernel
theorem dX10_undo_13 : decode cX10_undo 13 = .ok (.aload_n 0, 1) := by decide +kernel
theorem dX10_undo_14 : decode cX10_undo 14 = .ok (.getfield 29, 3) := by decide +kernel
theorem dX10_undo_17 : decode cX10_undo 17 = .ok (.aload_n 0, 1) := by decide +kernel
theorem dX10_undo_18 : decode cX10_undo 18 = .ok (.getfield 19, 3) := by decide +kernel
theorem dX10_undo_21 : decode cX10_undo 21 = .ok (.invokevirtual 132, 3) := by decide +kernel
theorem dX10_undo_24 : decode cX10_undo 24 = .ok (.aload_n 0, 1) := by decide +kernel
theorem dX10_undo_25 : decode cX10_undo 25 = .ok (.getfield 29, 3) := by decide +kernel
theorem dX10_undo_28 : decode cX10_undo 28 = .ok (.invokevirtual 131, 3) := by decide +kernel
theorem dX10_undo_31 : decode cX10_undo 31 = .ok (.ireturn, 1) := by decide +kernel
set_option maxRecDepth 20000 in
theorem ggX10_stamp_X3_areKnots : GoodIn wsX10_stamp wsX3_areKnots := goodIn_r _ [6, 7, 8, 9, 5, 10, 11, 59, 60, 61] (by decide +kernel) (by decide +kernel)
set_option maxRecDepth 20000 in
theorem gX10_stamp_X3_areKnots : GoodIn wsX10_stamp (wsV RX10 102 RX3 yX3_areKnots wsX3_areKnots) := goodIn_app (goodIn_of _ (by decide +kernel)) ggX10_stamp_X3_areKnots
set_option maxRecDepth 20000 in
theorem ggX10_stamp_X3_has : GoodIn wsX10_stamp wsX3_has := goodIn_r _ [15, 16, 17, 18, 5, 19, 20, 21, 22, 23, 24, 25, 26, 27, 28, 29, 30, 31, 32, 33, 34, 35, 36, 37, 59, 60, 61, 62, 63] (by decide +kernel) (by decide +kernel)
set_option maxRecDepth 20000 in
theorem gX10_stamp_X3_has : GoodIn wsX10_stamp (wsV RX10 106 RX3 yX3_has wsX3_has) := goodIn_app (goodIn_of _ (by decide +kernel)) ggX10_stamp_X3_has
set_option maxRecDepth 20000 in
theorem ggX10_stamp_X3_placeOf : GoodIn wsX10_stamp wsX3_placeOf := goodIn_r _ [19, 20, 21, 22, 23, 24, 25, 26, 27, 28, 29, 30, 31, 32, 33, 5, 34, 35, 36, 37, 59, 60, 61, 62, 63] (by decide +kernel) (by decide +kernel)
set_option maxRecDepth 20000 in
theorem gX10_stamp_X3_placeOf : GoodIn wsX10_stamp (wsV RX10 117 RX3 yX3_placeOf wsX3_placeOf) := goodIn_app (goodIn_of _ (by decide +kernel)) ggX10_stamp_X3_placeOf
set_option maxRecDepth 20000 in
theorem ggX10_stamp_X3_at : GoodIn wsX10_stamp wsX3_at := goodIn_r _ [42, 20, 27, 28, 29, 24, 30, 26, 31, 59, 60, 61, 62, 63] (by decide +kernel) (by decide +kernel)
set_option maxRecDepth 20000 in
theorem gX10_stamp_X3_at : GoodIn wsX10_stamp (wsV RX10 135 RX3 yX3_at wsX3_at) := goodIn_app (goodIn_of _ (by decide +kernel)) ggX10_stamp_X3_at
set_option maxRecDepth 20000 in
theorem ggX10_stamp_X3_stampOf : GoodIn wsX10_stamp wsX3_stampOf := goodIn_r _ [45] (by decide +kernel) (by decide +kernel)
set_option maxRecDepth 20000 in
theorem gX10_stamp_X3_stampOf : GoodIn wsX10_stamp (va_wsS RX10 128 yX3_stampOf wsX3_stampOf) := goodIn_app (goodIn_of _ (by decide +kernel)) ggX10_stamp_X3_stampOf
theorem dX10_stamp_0 : decode cX10_stamp 0 = .ok (.aload_n 0, 1) := by decide +kernel
theorem dX10_stamp_1 : decode cX10_stamp 1 = .ok (.getfield 19, 3) := by decide +kernel
theorem dX10_stamp_4 : decode cX10_stamp 4 = .ok (.iload_n 1, 1) := by decide +kernel
theorem dX10_stamp_5 : decode cX10_stamp 5 = .ok (.iload_n 2, 1) := by decide +kernel
theorem dX10_stamp_6 : decode cX10_stamp 6 = .ok (.invokevirtual 102, 3) := by decide +kernel
theorem dX10_stamp_9 : decode cX10_stamp 9 = .ok (.ifCond .ne 5, 3) := by decide +kernel
theorem dX10_stamp_12 : decode cX10_stamp 12 = .ok (.iconst (-1), 1) := by decide +kernel
theorem dX10_stamp_13 : decode cX10_stamp 13 = .ok (.ireturn, 1) := by decide +kernel
theorem dX10_stamp_14 : decode cX10_stamp 14 = .ok (.aload_n 0, 1) := by decide +kernel
theorem dX10_stamp_15 : decode cX10_stamp 15 = .ok (.getfield 19, 3) := by decide +kernel
theorem dX10_stamp_18 : decode cX10_stamp 18 = .ok (.iload_n 1, 1) := by decide +kernel
theorem dX10_stamp_19 : decode cX10_stamp 19 = .ok (.iload_n 2, 1) := by decide +kernel
theorem dX10_stamp_20 : decode cX10_stamp 20 = .ok (.invokevirtual 106, 3) := by decide +kernel
theorem dX10_stamp_23 : decode cX10_stamp 23 = .ok (.ifCond .eq 25, 3) := by decide +kernel
theorem dX10_stamp_26 : decode cX10_stamp 26 = .ok (.aload_n 0, 1) := by decide +kernel
theorem dX10_stamp_27 : decode cX10_stamp 27 = .ok (.getfield 19, 3) := by decide +kernel
theorem dX10_stamp_30 : decode cX10_stamp 30 = .ok (.aload_n 0, 1) := by decide +kernel
theorem dX10_stamp_31 : decode cX10_stamp 31 = .ok (.getfield 19, 3) := by decide +kernel
theorem dX10_stamp_34 : decode cX10_stamp 34 = .ok (.iload_n 1, 1) := by decide +kernel
theorem dX10_stamp_35 : decode cX10_stamp 35 = .ok (.iload_n 2, 1) := by decide +kernel
theorem dX10_stamp_36 : decode cX10_stamp 36 = .ok (.invokevirtual 117, 3) := by decide +kernel
theorem dX10_stamp_39 : decode cX10_stamp 39 = .ok (.invokevirtual 135, 3) := by decide +kernel
theorem dX10_stamp_42 : decode cX10_stamp 42 = .ok (.invokestatic 128, 3) := by decide +kernel
theorem dX10_stamp_45 : decode cX10_stamp 45 = .ok (.goto 5, 3) := by decide +kernel
theorem dX10_stamp_48 : decode cX10_stamp 48 = .ok (.bipush (-9), 2) := by decide +kernel
theorem dX10_stamp_50 : decode cX10_stamp 50 = .ok (.ireturn, 1) := by decide +kernel
set_option maxRecDepth 20000 in
theorem ggX10_edge_X3_size : GoodIn wsX10_edge wsX3_size := goodIn_r _ [6, 7, 8, 9, 10, 11, 12, 13, 39, 40, 41, 42, 43] (by decide +kernel) (by decide +kernel)
set_option maxRecDepth 20000 in
theorem gX10_edge_X3_size : GoodIn wsX10_edge (wsV RX10 99 RX3 yX3_size wsX3_size) := goodIn_app (goodIn_of _ (by decide +kernel)) ggX10_edge_X3_size
set_option maxRecDepth 20000 in
theorem ggX10_edge_X3_at : GoodIn wsX10_edge wsX3_at := goodIn_r _ [17, 7, 18, 19, 20, 11, 21, 13, 22, 39, 40, 41, 42, 43] (by decide +kernel) (by decide +kernel)
set_option maxRecDepth 20000 in
theorem gX10_edge_X3_at : GoodIn wsX10_edge (wsV RX10 135 RX3 yX3_at wsX3_at) := goodIn_app (goodIn_of _ (by decide +kernel)) ggX10_edge_X3_at
set_option maxRecDepth 20000 in
theorem ggX10_edge_X3_pairOf : GoodIn wsX10_edge wsX3_pairOf := goodIn_r _ [25] (by decide +kernel) (by decide +kernel)
set_option maxRecDepth 20000 in
theorem gX10_edge_X3_pairOf : GoodIn wsX10_edge (va_wsS RX10 138 yX3_pairOf wsX3_pairOf) := goodIn_app (goodIn_of _ (by decide +kernel)) ggX10_edge_X3_pairOf
theorem dX10_edge_0 : decode cX10_edge 0 = .ok (.iload_n 1, 1) := by decide +kernel
theorem dX10_edge_1 : decode cX10_edge 1 = .ok (.ifCond .lt 28, 3) := by decide +kernel
theorem dX10_edge_4 : decode cX10_edge 4 = .ok (.iload_n 1, 1) := by decide +kernel
theorem dX10_edge_5 : decode cX10_edge 5 = .ok (.aload_n 0, 1) := by decide +kernel
theorem dX10_edge_6 : decode cX10_edge 6 = .ok (.getfield 19, 3) := by decide +kernel
theorem dX10_edge_9 : decode cX10_edge 9 = .ok (.invokevirtual 99, 3) := by decide +kernel
theorem dX10_edge_12 : decode cX10_edge 12 = .ok (.if_icmp .ge 17, 3) := by decide +kernel
theorem dX10_edge_15 : decode cX10_edge 15 = .ok (.aload_n 0, 1) := by decide +kernel
theorem dX10_edge_16 : decode cX10_edge 16 = .ok (.getfield 19, 3) := by decide +kernel
theorem dX10_edge_19 : decode cX10_edge 19 = .ok (.iload_n 1, 1) := by decide +kernel
theorem dX10_edge_20 : decode cX10_edge 20 = .ok (.invokevirtual 135, 3) := by decide +kernel
theorem dX10_edge_23 : decode cX10_edge 23 = .ok (.invokestatic 138, 3) := by decide +kernel
theorem dX10_edge_26 : decode cX10_edge 26 = .ok (.goto 5, 3) := by decide +kernel
theorem dX10_edge_29 : decode cX10_edge 29 = .ok (.bipush (-9), 2) := by decide +kernel
theorem dX10_edge_31 : decode cX10_edge 31 = .ok (.ireturn, 1) := by decide +kernel
set_option maxRecDepth 20000 in
theorem ggX10_knot_X3_isKnot : GoodIn wsX10_knot wsX3_isKnot := goodIn_r _ [8, 9, 190, 191, 192] (by decide +kernel) (by decide +kernel)
set_option maxRecDepth 20000 in
theorem gX10_knot_X3_isKnot : GoodIn wsX10_knot (wsV RX10 141 RX3 yX3_isKnot wsX3_isKnot) := goodIn_app (goodIn_of _ (by decide +kernel)) ggX10_knot_X3_isKnot
set_option maxRecDepth 20000 in
theorem ggX10_knot_X10_learnCovers : GoodIn wsX10_knot wsX10_learnCovers := goodIn_r _ [14, 2, 1, 15, 16, 17, 7, 18, 19, 20, 21, 22, 23, 24, 25, 26, 27, 28, 29, 30, 31, 32, 33, 34, 35, 36, 37, 38, 39, 40, 41, 42, 43, 44, 45, 46, 47, 48, 49, 50, 51, 52, 53, 54, 55, 56, 57, 58, 59, 60, 61, 62, 63, 64, 65, 66, 67, 68, 69, 70, 71, 72, 73, 74, 75, 76, 77, 78, 79, 80, 81, 82, 83, 84, 85, 86, 177, 178, 179, 180, 181, 182, 183, 184, 185, 186, 187, 188, 189, 190, 191, 192, 193, 194, 195, 196, 197, 198] (by decide +kernel) (by decide +kernel)
set_option maxRecDepth 20000 in
theorem gX10_knot_X10_learnCovers : GoodIn wsX10_knot (wsV RX10 145 RX10 yX10_learnCovers wsX10_learnCovers) := goodIn_app (goodIn_of _ (by decide +kernel)) ggX10_knot_X10_learnCovers
set_option maxRecDepth 20000 in
theorem ggX10_knot_X2_isReached : GoodIn wsX10_knot wsX2_isReached := goodIn_r _ [69, 44, 70, 71, 36, 72, 195, 196, 197, 198] (by decide +kernel) (by decide +kernel)
set_option maxRecDepth 20000 in
theorem gX10_knot_X2_isReached : GoodIn wsX10_knot (wsV RX10 148 RX2 yX2_isReached wsX2_isReached) := goodIn_app (goodIn_of _ (by decide +kernel)) ggX10_knot_X2_isReached
set_option maxRecDepth 20000 in
theorem ggX10_knot_X2_lidOf : GoodIn wsX10_knot wsX2_lidOf := goodIn_r _ [91, 92, 93, 94, 41, 95, 46, 96, 64, 36, 65, 73, 51, 52, 97, 98, 99, 100, 195, 196, 197, 198] (by decide +kernel) (by decide +kernel)
set_option maxRecDepth 20000 in
theorem gX10_knot_X2_lidOf : GoodIn wsX10_knot (wsV RX10 151 RX2 yX2_lidOf wsX2_lidOf) := goodIn_app (goodIn_of _ (by decide +kernel)) ggX10_knot_X2_lidOf
set_option maxRecDepth 20000 in
theorem ggX10_knot_X2_depthOf : GoodIn wsX10_knot wsX2_depthOf := goodIn_r _ [104, 66, 67, 68, 41, 69, 44, 70, 71, 36, 72, 92, 93, 94, 95, 46, 96, 64, 65, 105, 57, 58, 59, 60, 61, 62, 195, 196, 197, 198] (by decide +kernel) (by decide +kernel)
set_option maxRecDepth 20000 in
theorem gX10_knot_X2_depthOf : GoodIn wsX10_knot (wsV RX10 154 RX2 yX2_depthOf wsX2_depthOf) := goodIn_app (goodIn_of _ (by decide +kernel)) ggX10_knot_X2_depthOf
set_option maxRecDepth 20000 in
theorem ggX10_knot_X9_go : GoodIn wsX10_knot wsX9_go := goodIn_r _ [110, 111, 112, 113, 114, 16, 17, 7, 18, 19, 20, 21, 22, 23, 24, 25, 26, 27, 28, 29, 30, 31, 32, 33, 34, 35, 36, 37, 115, 116, 117, 118, 119, 120, 121, 122, 123, 124, 125, 126, 127, 128, 129, 130, 131, 51, 52, 132, 133, 134, 135, 136, 137, 138, 71, 72, 139, 140, 141, 142, 143, 144, 145, 146, 199, 200, 201, 190, 191, 192, 193, 194] (by decide +kernel) (by decide +kernel)
set_option maxRecDepth 20000 in
theorem gX10_knot_X9_go : GoodIn wsX10_knot (wsV RX10 157 RX9 yX9_go wsX9_go) := goodIn_app (goodIn_of _ (by decide +kernel)) ggX10_knot_X9_go
set_option maxRecDepth 20000 in
theorem ggX10_knot_X9_orderOf : GoodIn wsX10_knot wsX9_orderOf := goodIn_r _ [150, 112, 151, 152, 153, 23, 154, 25, 155, 27, 28, 29, 30, 199, 200, 201, 193, 194] (by decide +kernel) (by decide +kernel)
set_option maxRecDepth 20000 in
theorem gX10_knot_X9_orderOf : GoodIn wsX10_knot (wsV RX10 160 RX9 yX9_orderOf wsX9_orderOf) := goodIn_app (goodIn_of _ (by decide +kernel)) ggX10_knot_X9_orderOf
set_option maxRecDepth 20000 in
theorem ggX10_knot_X9_halfOf : GoodIn wsX10_knot wsX9_halfOf := goodIn_r _ [159, 112, 160, 148, 149, 109, 150, 151, 152, 153, 23, 154, 25, 155, 27, 28, 29, 30, 161, 162, 163, 164, 111, 165, 83, 36, 84, 63, 64, 65, 85, 71, 72, 50, 51, 52, 166, 54, 55, 56, 57, 58, 59, 60, 61, 62, 131, 132, 21, 22, 24, 133, 167, 199, 200, 201, 193, 194] (by decide +kernel) (by decide +kernel)
set_option maxRecDepth 20000 in
theorem gX10_knot_X9_halfOf : GoodIn wsX10_knot (wsV RX10 163 RX9 yX9_halfOf wsX9_halfOf) := goodIn_app (goodIn_of _ (by decide +kernel)) ggX10_knot_X9_halfOf
set_option maxRecDepth 20000 in
theorem ggX10_knot_X2_coveredBy : GoodIn wsX10_knot wsX2_coveredBy := goodIn_r _ [171, 45, 96, 64, 36, 65, 195, 196, 197, 198] (by decide +kernel) (by decide +kernel)
set_option maxRecDepth 20000 in
theorem gX10_knot_X2_coveredBy : GoodIn wsX10_knot (wsV RX10 166 RX2 yX2_coveredBy wsX2_coveredBy) := goodIn_app (goodIn_of _ (by decide +kernel)) ggX10_knot_X2_coveredBy
set_option maxRecDepth 20000 in
theorem ggX10_knot_X2_rimOf : GoodIn wsX10_knot wsX2_rimOf := goodIn_r _ [175, 43, 176, 169, 170, 41, 171, 45, 96, 64, 36, 65, 70, 71, 72, 73, 51, 52, 195, 196, 197, 198] (by decide +kernel) (by decide +kernel)
set_option maxRecDepth 20000 in
theorem gX10_knot_X2_rimOf : GoodIn wsX10_knot (wsV RX10 169 RX2 yX2_rimOf wsX2_rimOf) := goodIn_app (goodIn_of _ (by decide +kernel)) ggX10_knot_X2_rimOf
theorem dX10_knot_0 : decode cX10_knot 0 = .ok (.aload_n 0, 1) := by decide +kernel
theorem dX10_knot_1 : decode cX10_knot 1 = .ok (.getfield 19, 3) := by decide +kernel
theorem dX10_knot_4 : decode cX10_knot 4 = .ok (.iload_n 1, 1) := by decide +kernel
theorem dX10_knot_5 : decode cX10_knot 5 = .ok (.invokevirtual 141, 3) := by decide +kernel
theorem dX10_knot_8 : decode cX10_knot 8 = .ok (.ifCond .ne 5, 3) := by decide +kernel
theorem dX10_knot_11 : decode cX10_knot 11 = .ok (.iconst (-1), 1) := by decide +kernel
theorem dX10_knot_12 : decode cX10_knot 12 = .ok (.ireturn, 1) := by decide +kernel
theorem dX10_knot_13 : decode cX10_knot 13 = .ok (.aload_n 0, 1) := by decide +kernel
theorem dX10_knot_14 : decode cX10_knot 14 = .ok (.invokevirtual 145, 3) := by decide +kernel
theorem dX10_knot_17 : decode cX10_knot 17 = .ok (.iload_n 2, 1) := by decide +kernel
theorem dX10_knot_18 : decode cX10_knot 18 = .ok (.tableswitch 135 0 6 #[42, 59, 68, 77, 97, 117, 126], 42) := by decide +kernel
theorem dX10_knot_60 : decode cX10_knot 60 = .ok (.aload_n 0, 1) := by decide +kernel
theorem dX10_knot_61 : decode cX10_knot 61 = .ok (.getfield 49, 3) := by decide +kernel
theorem dX10_knot_64 : decode cX10_knot 64 = .ok (.iload_n 1, 1) := by decide +kernel
theorem dX10_knot_65 : decode cX10_knot 65 = .ok (.invokevirtual 148, 3) := by decide +kernel
theorem dX10_knot_68 : decode cX10_knot 68 = .ok (.ifCond .eq 7, 3) := by decide +kernel
theorem dX10_knot_71 : decode cX10_knot 71 = .ok (.iconst 1, 1) := by decide +kernel
theorem dX10_knot_72 : decode cX10_knot 72 = .ok (.goto 4, 3) := by decide +kernel
theorem dX10_knot_75 : decode cX10_knot 75 = .ok (.iconst 0, 1) := by decide +kernel
theorem dX10_knot_76 : decode cX10_knot 76 = .ok (.ireturn, 1) := by decide +kernel
theorem dX10_knot_77 : decode cX10_knot 77 = .ok (.aload_n 0, 1) := by decide +kernel
theorem dX10_knot_78 : decode cX10_knot 78 = .ok (.getfield 49, 3) := by decide +kernel
theorem dX10_knot_81 : decode cX10_knot 81 = .ok (.iload_n 1, 1) := by decide +kernel
theorem dX10_knot_82 : decode cX10_knot 82 = .ok (.invokevirtual 151, 3) := by decide +kernel
theorem dX10_knot_85 : decode cX10_knot 85 = .ok (.ireturn, 1) := by decide +kernel
theorem dX10_knot_86 : decode cX10_knot 86 = .ok (.aload_n 0, 1) := by decide +kernel
theorem dX10_knot_87 : decode cX10_knot 87 = .ok (.getfield 49, 3) := by decide +kernel
theorem dX10_knot_90 : decode cX10_knot 90 = .ok (.iload_n 1, 1) := by decide +kernel
theorem dX10_knot_91 : decode cX10_knot 91 = .ok (.invokevirtual 154, 3) := by decide +kernel
theorem dX10_knot_94 : decode cX10_knot 94 = .ok (.ireturn, 1) := by decide +kernel
theorem dX10_knot_95 : decode cX10_knot 95 = .ok (.aload_n 0, 1) := by decide +kernel
theorem dX10_knot_96 : decode cX10_knot 96 = .ok (.getfield 59, 3) := by decide +kernel
theorem dX10_knot_99 : decode cX10_knot 99 = .ok (.aload_n 0, 1) := by decide +kernel
theorem dX10_knot_100 : decode cX10_knot 100 = .ok (.getfield 19, 3) := by decide +kernel
theorem dX10_knot_103 : decode cX10_knot 103 = .ok (.invokevirtual 157, 3) := by decide +kernel
theorem dX10_knot_106 : decode cX10_knot 106 = .ok (.aload_n 0, 1) := by decide +kernel
theorem dX10_knot_107 : decode cX10_knot 107 = .ok (.getfield 59, 3) := by decide +kernel
theorem dX10_knot_110 : decode cX10_knot 110 = .ok (.iload_n 1, 1) := by decide +kernel
theorem dX10_knot_111 : decode cX10_knot 111 = .ok (.invokevirtual 160, 3) := by decide +kernel
theorem dX10_knot_114 : decode cX10_knot 114 = .ok (.ireturn, 1) := by decide +kernel
theorem dX10_knot_115 : decode cX10_knot 115 = .ok (.aload_n 0, 1) := by decide +kernel
theorem dX10_knot_116 : decode cX10_knot 116 = .ok (.getfield 59, 3) := by decide +kernel
theorem dX10_knot_119 : decode cX10_knot 119 = .ok (.aload_n 0, 1) := by decide +kernel
theorem dX10_knot_120 : decode cX10_knot 120 = .ok (.getfield 19, 3) := by decide +kernel
theorem dX10_knot_123 : decode cX10_knot 123 = .ok (.invokevirtual 157, 3) := by decide +kernel
theorem dX10_knot_126 : decode cX10_knot 126 = .ok (.aload_n 0, 1) := by decide +kernel
theorem dX10_knot_127 : decode cX10_knot 127 = .ok (.getfield 59, 3) := by decide +kernel
theorem dX10_knot_130 : decode cX10_knot 130 = .ok (.iload_n 1, 1) := by decide +kernel
theorem dX10_knot_131 : decode cX10_knot 131 = .ok (.invokevirtual 163, 3) := by decide +kernel
theorem dX10_knot_134 : decode cX10_knot 134 = .ok (.ireturn, 1) := by decide +kernel
theorem dX10_knot_135 : decode cX10_knot 135 = .ok (.aload_n 0, 1) := by decide +kernel
theorem dX10_knot_136 : decode cX10_knot 136 = .ok (.getfield 49, 3) := by decide +kernel
theorem dX10_knot_139 : decode cX10_knot 139 = .ok (.iload_n 1, 1) := by decide +kernel
theorem dX10_knot_140 : decode cX10_knot 140 = .ok (.invokevirtual 166, 3) := by decide +kernel
theorem dX10_knot_143 : decode cX10_knot 143 = .ok (.ireturn, 1) := by decide +kernel
theorem dX10_knot_144 : decode cX10_knot 144 = .ok (.aload_n 0, 1) := by decide +kernel
theorem dX10_knot_145 : decode cX10_knot 145 = .ok (.getfield 49, 3) := by decide +kernel
theorem dX10_knot_148 : decode cX10_knot 148 = .ok (.iload_n 1, 1) := by decide +kernel
theorem dX10_knot_149 : decode cX10_knot 149 = .ok (.invokevirtual 169, 3) := by decide +kernel
theorem dX10_knot_152 : decode cX10_knot 152 = .ok (.ireturn, 1) := by decide +kernel
theorem dX10_knot_153 : decode cX10_knot 153 = .ok (.bipush (-2), 2) := by decide +kernel
theorem dX10_knot_155 : decode cX10_knot 155 = .ok (.ireturn, 1) := by decide +kernel
set_option maxRecDepth 20000 in
theorem ggX10_nearest_X3_areKnots : GoodIn wsX10_nearest wsX3_areKnots := goodIn_r _ [7, 8, 9, 10, 6, 11, 12, 113, 114, 115] (by decide +kernel) (by decide +kernel)
set_option maxRecDepth 20000 in
theorem gX10_nearest_X3_areKnots : GoodIn wsX10_nearest (wsV RX10 102 RX3 yX3_areKnots wsX3_areKnots) := goodIn_app (goodIn_of _ (by decide +kernel)) ggX10_nearest_X3_areKnots
set_option maxRecDepth 20000 in
theorem ggX10_nearest_X10_learnCovers : GoodIn wsX10_nearest wsX10_learnCovers := goodIn_r _ [17, 2, 1, 18, 19, 20, 6, 21, 22, 23, 24, 25, 26, 27, 28, 29, 30, 31, 32, 33, 34, 35, 36, 37, 38, 39, 40, 41, 42, 43, 44, 45, 46, 47, 48, 49, 50, 51, 52, 53, 54, 55, 56, 57, 58, 59, 60, 61, 62, 63, 64, 65, 66, 67, 68, 69, 70, 71, 72, 73, 74, 75, 76, 77, 78, 79, 80, 81, 82, 83, 84, 85, 86, 87, 88, 89, 100, 101, 102, 103, 104, 105, 106, 107, 108, 109, 110, 111, 112, 113, 114, 115, 116, 117, 118, 119, 120, 121] (by decide +kernel) (by decide +kernel)
set_option maxRecDepth 20000 in
theorem gX10_nearest_X10_learnCovers : GoodIn wsX10_nearest (wsV RX10 145 RX10 yX10_learnCovers wsX10_learnCovers) := goodIn_app (goodIn_of _ (by decide +kernel)) ggX10_nearest_X10_learnCovers
set_option maxRecDepth 20000 in
theorem ggX10_nearest_X2_isReached : GoodIn wsX10_nearest wsX2_isReached := goodIn_r _ [72, 47, 73, 74, 39, 75, 118, 119, 120, 121] (by decide +kernel) (by decide +kernel)
set_option maxRecDepth 20000 in
theorem gX10_nearest_X2_isReached : GoodIn wsX10_nearest (wsV RX10 148 RX2 yX2_isReached wsX2_isReached) := goodIn_app (goodIn_of _ (by decide +kernel)) ggX10_nearest_X2_isReached
set_option maxRecDepth 20000 in
theorem ggX10_nearest_X2_coverersOf : GoodIn wsX10_nearest wsX2_coverersOf := goodIn_r _ [94, 49, 95, 67, 39, 68, 118, 119, 120, 121] (by decide +kernel) (by decide +kernel)
set_option maxRecDepth 20000 in
theorem gX10_nearest_X2_coverersOf : GoodIn wsX10_nearest (wsV RX10 172 RX2 yX2_coverersOf wsX2_coverersOf) := goodIn_app (goodIn_of _ (by decide +kernel)) ggX10_nearest_X2_coverersOf
set_option maxRecDepth 20000 in
theorem ggX10_nearest_X2_coveredByJust : GoodIn wsX10_nearest wsX2_coveredByJust := goodIn_r _ [99, 49, 95, 67, 39, 68, 118, 119, 120, 121] (by decide +kernel) (by decide +kernel)
set_option maxRecDepth 20000 in
theorem gX10_nearest_X2_coveredByJust : GoodIn wsX10_nearest (wsV RX10 175 RX2 yX2_coveredByJust wsX2_coveredByJust) := goodIn_app (goodIn_of _ (by decide +kernel)) ggX10_nearest_X2_coveredByJust
theorem dX10_nearest_0 : decode cX10_nearest 0 = .ok (.aload_n 0, 1) := by decide +kernel
theorem dX10_nearest_1 : decode cX10_nearest 1 = .ok (.getfield 19, 3) := by decide +kernel
theorem dX10_nearest_4 : decode cX10_nearest 4 = .ok (.iload_n 1, 1) := by decide +kernel
theorem dX10_nearest_5 : decode cX10_nearest 5 = .ok (.iload_n 2, 1) := by decide +kernel
theorem dX10_nearest_6 : decode cX10_nearest 6 = .ok (.invokevirtual 102, 3) := by decide +kernel
theorem dX10_nearest_9 : decode cX10_nearest 9 = .ok (.ifCond .ne 5, 3) := by decide +kernel
theorem dX10_nearest_12 : decode cX10_nearest 12 = .ok (.iconst (-1), 1) := by decide +kernel
theorem dX10_nearest_13 : decode cX10_nearest 13 = .ok (.ireturn, 1) := by decide +kernel
theorem dX10_nearest_14 : decode cX10_nearest 14 = .ok (.aload_n 0, 1) := by decide +kernel
theorem dX10_nearest_15 : decode cX10_nearest 15 = .ok (.invokevirtual 145, 3) := by decide +kernel
theorem dX10_nearest_18 : decode cX10_nearest 18 = .ok (.aload_n 0, 1) := by decide +kernel
theorem dX10_nearest_19 : decode cX10_nearest 19 = .ok (.getfield 49, 3) := by decide +kernel
theorem dX10_nearest_22 : decode cX10_nearest 22 = .ok (.iload_n 1, 1) := by decide +kernel
theorem dX10_nearest_23 : decode cX10_nearest 23 = .ok (.invokevirtual 148, 3) := by decide +kernel
theorem dX10_nearest_26 : decode cX10_nearest 26 = .ok (.ifCond .eq 14, 3) := by decide +kernel
theorem dX10_nearest_29 : decode cX10_nearest 29 = .ok (.aload_n 0, 1) := by decide +kernel
theorem dX10_nearest_30 : decode cX10_nearest 30 = .ok (.getfield 49, 3) := by decide +kernel
theorem dX10_nearest_33 : decode cX10_nearest 33 = .ok (.iload_n 2, 1) := by decide +kernel
theorem dX10_nearest_34 : decode cX10_nearest 34 = .ok (.invokevirtual 148, 3) := by decide +kernel
theorem dX10_nearest_37 : decode cX10_nearest 37 = .ok (.ifCond .ne 6, 3) := by decide +kernel
theorem dX10_nearest_40 : decode cX10_nearest 40 = .ok (.bipush (-3), 2) := by decide +kernel
theorem dX10_nearest_42 : decode cX10_nearest 42 = .ok (.ireturn, 1) := by decide +kernel
theorem dX10_nearest_43 : decode cX10_nearest 43 = .ok (.aload_n 0, 1) := by decide +kernel
theorem dX10_nearest_44 : decode cX10_nearest 44 = .ok (.getfield 49, 3) := by decide +kernel
theorem dX10_nearest_47 : decode cX10_nearest 47 = .ok (.aload_n 0, 1) := by decide +kernel
theorem dX10_nearest_48 : decode cX10_nearest 48 = .ok (.getfield 49, 3) := by decide +kernel
theorem dX10_nearest_51 : decode cX10_nearest 51 = .ok (.iload_n 1, 1) := by decide +kernel
theorem dX10_nearest_52 : decode cX10_nearest 52 = .ok (.invokevirtual 172, 3) := by decide +kernel
theorem dX10_nearest_55 : decode cX10_nearest 55 = .ok (.aload_n 0, 1) := by decide +kernel
theorem dX10_nearest_56 : decode cX10_nearest 56 = .ok (.getfield 49, 3) := by decide +kernel
theorem dX10_nearest_59 : decode cX10_nearest 59 = .ok (.iload_n 2, 1) := by decide +kernel
theorem dX10_nearest_60 : decode cX10_nearest 60 = .ok (.invokevirtual 172, 3) := by decide +kernel
theorem dX10_nearest_63 : decode cX10_nearest 63 = .ok (.iand, 1) := by decide +kernel
theorem dX10_nearest_64 : decode cX10_nearest 64 = .ok (.invokevirtual 175, 3) := by decide +kernel
theorem dX10_nearest_67 : decode cX10_nearest 67 = .ok (.ireturn, 1) := by decide +kernel
set_option maxRecDepth 20000 in
theorem ggX10_would_X3_areKnots : GoodIn wsX10_would wsX3_areKnots := goodIn_r _ [8, 9, 10, 11, 7, 12, 13, 141, 142, 143] (by decide +kernel) (by decide +kernel)
set_option maxRecDepth 20000 in
theorem gX10_would_X3_areKnots : GoodIn wsX10_would (wsV RX10 102 RX3 yX3_areKnots wsX3_areKnots) := goodIn_app (goodIn_of _ (by decide +kernel)) ggX10_would_X3_areKnots
set_option maxRecDepth 20000 in
theorem ggX10_would_X3_has : GoodIn wsX10_would wsX3_has := goodIn_r _ [17, 18, 19, 20, 7, 21, 22, 23, 24, 25, 26, 27, 28, 29, 30, 31, 32, 33, 34, 35, 36, 37, 38, 39, 141, 142, 143, 144, 145] (by decide +kernel) (by decide +kernel)
set_option maxRecDepth 20000 in
theorem gX10_would_X3_has : GoodIn wsX10_would (wsV RX10 106 RX3 yX3_has wsX3_has) := goodIn_app (goodIn_of _ (by decide +kernel)) ggX10_would_X3_has
set_option maxRecDepth 20000 in
theorem ggX10_would_X3_isFull : GoodIn wsX10_would wsX3_isFull := goodIn_r _ [43, 22, 44, 45, 46, 26, 47, 28, 33, 141, 142, 143, 144, 145] (by decide +kernel) (by decide +kernel)
set_option maxRecDepth 20000 in
theorem gX10_would_X3_isFull : GoodIn wsX10_would (wsV RX10 109 RX3 yX3_isFull wsX3_isFull) := goodIn_app (goodIn_of _ (by decide +kernel)) ggX10_would_X3_isFull
set_option maxRecDepth 20000 in
theorem ggX10_would_X10_learnCovers : GoodIn wsX10_would wsX10_learnCovers := goodIn_r _ [52, 3, 1, 53, 54, 55, 7, 56, 22, 23, 24, 25, 26, 27, 28, 29, 30, 31, 32, 33, 34, 35, 36, 57, 58, 59, 60, 61, 62, 63, 64, 65, 66, 67, 68, 69, 70, 71, 72, 73, 74, 75, 76, 77, 78, 79, 80, 81, 82, 83, 84, 85, 86, 87, 88, 89, 90, 91, 92, 93, 94, 95, 96, 97, 98, 99, 100, 101, 102, 103, 104, 105, 106, 107, 108, 109, 128, 129, 130, 131, 132, 133, 134, 135, 136, 137, 138, 139, 140, 141, 142, 143, 144, 145, 146, 147, 148, 149] (by decide +kernel) (by decide +kernel)
set_option maxRecDepth 20000 in
theorem gX10_would_X10_learnCovers : GoodIn wsX10_would (wsV RX10 145 RX10 yX10_learnCovers wsX10_learnCovers) := goodIn_app (goodIn_of _ (by decide +kernel)) ggX10_would_X10_learnCovers
set_option maxRecDepth 20000 in
theorem ggX10_would_X3_grid : GoodIn wsX10_would wsX3_grid := goodIn_r _ [56, 22, 23, 24, 25, 26, 27, 28, 29, 30, 31, 32, 33, 34, 35, 7, 36, 57, 58, 59, 60, 141, 142, 143, 144, 145] (by decide +kernel) (by decide +kernel)
set_option maxRecDepth 20000 in
theorem gX10_would_X3_grid : GoodIn wsX10_would (wsV RX10 178 RX3 yX3_grid wsX3_grid) := goodIn_app (goodIn_of _ (by decide +kernel)) ggX10_would_X3_grid
set_option maxRecDepth 20000 in
theorem ggX10_would_X5_flipped : GoodIn wsX10_would wsX5_flipped := goodIn_r _ [60] (by decide +kernel) (by decide +kernel)
set_option maxRecDepth 20000 in
theorem gX10_would_X5_flipped : GoodIn wsX10_would (va_wsS RX10 182 yX5_flipped wsX5_flipped) := goodIn_app (goodIn_of _ (by decide +kernel)) ggX10_would_X5_flipped
set_option maxRecDepth 20000 in
theorem ggX10_would_X2_learn : GoodIn wsX10_would wsX2_learn := goodIn_r _ [65, 66, 67, 68, 69, 70, 71, 59, 72, 73, 74, 75, 76, 77, 78, 79, 80, 81, 82, 83, 84, 85, 86, 87, 88, 89, 90, 91, 64, 92, 93, 94, 95, 96, 97, 98, 99, 100, 101, 102, 103, 104, 105, 106, 107, 108, 109, 146, 147, 148, 149] (by decide +kernel) (by decide +kernel)
set_option maxRecDepth 20000 in
theorem gX10_would_X2_learn : GoodIn wsX10_would (wsV RX10 188 RX2 yX2_learn wsX2_learn) := goodIn_app (goodIn_of _ (by decide +kernel)) ggX10_would_X2_learn
set_option maxRecDepth 20000 in
theorem ggX10_would_X2_changedIn : GoodIn wsX10_would wsX2_changedIn := goodIn_r _ [114, 67, 115, 116, 117, 64, 118, 119, 120, 121, 122, 69, 123, 87, 59, 88, 96, 74, 75, 124, 125, 126, 127, 146, 147, 148, 149] (by decide +kernel) (by decide +kernel)
set_option maxRecDepth 20000 in
theorem gX10_would_X2_changedIn : GoodIn wsX10_would (wsV RX10 192 RX2 yX2_changedIn wsX2_changedIn) := goodIn_app (goodIn_of _ (by decide +kernel)) ggX10_would_X2_changedIn
theorem dX10_would_0 : decode cX10_would 0 = .ok (.aload_n 0, 1) := by decide +kernel
theorem dX10_would_1 : decode cX10_would 1 = .ok (.getfield 19, 3) := by decide +kernel
theorem dX10_would_4 : decode cX10_would 4 = .ok (.iload_n 1, 1) := by decide +kernel
theorem dX10_would_5 : decode cX10_would 5 = .ok (.iload_n 2, 1) := by decide +kernel
theorem dX10_would_6 : decode cX10_would 6 = .ok (.invokevirtual 102, 3) := by decide +kernel
theorem dX10_would_9 : decode cX10_would 9 = .ok (.ifCond .ne 5, 3) := by decide +kernel
theorem dX10_would_12 : decode cX10_would 12 = .ok (.iconst (-1), 1) := by decide +kernel
theorem dX10_would_13 : decode cX10_would 13 = .ok (.ireturn, 1) := by decide +kernel
theorem dX10_would_14 : decode cX10_would 14 = .ok (.iload_n 1, 1) := by decide +kernel
theorem dX10_would_15 : decode cX10_would 15 = .ok (.iload_n 2, 1) := by decide +kernel
theorem dX10_would_16 : decode cX10_would 16 = .ok (.if_icmp .ne 6, 3) := by decide +kernel
theorem dX10_would_19 : decode cX10_would 19 = .ok (.bipush (-2), 2) := by decide +kernel
theorem dX10_would_21 : decode cX10_would 21 = .ok (.ireturn, 1) := by decide +kernel
theorem dX10_would_22 : decode cX10_would 22 = .ok (.aload_n 0, 1) := by decide +kernel
theorem dX10_would_23 : decode cX10_would 23 = .ok (.getfield 19, 3) := by decide +kernel
theorem dX10_would_26 : decode cX10_would 26 = .ok (.iload_n 1, 1) := by decide +kernel
theorem dX10_would_27 : decode cX10_would 27 = .ok (.iload_n 2, 1) := by decide +kernel
theorem dX10_would_28 : decode cX10_would 28 = .ok (.invokevirtual 106, 3) := by decide +kernel
theorem dX10_would_31 : decode cX10_would 31 = .ok (.ifCond .ne 16, 3) := by decide +kernel
theorem dX10_would_34 : decode cX10_would 34 = .ok (.aload_n 0, 1) := by decide +kernel
theorem dX10_would_35 : decode cX10_would 35 = .ok (.getfield 19, 3) := by decide +kernel
theorem dX10_would_38 : decode cX10_would 38 = .ok (.invokevirtual 109, 3) := by decide +kernel
theorem dX10_would_41 : decode cX10_would 41 = .ok (.ifCond .eq 6, 3) := by decide +kernel
theorem dX10_would_44 : decode cX10_would 44 = .ok (.bipush (-4), 2) := by decide +kernel
theorem dX10_would_46 : decode cX10_would 46 = .ok (.ireturn, 1) := by decide +kernel
theorem dX10_would_47 : decode cX10_would 47 = .ok (.aload_n 0, 1) := by decide +kernel
theorem dX10_would_48 : decode cX10_would 48 = .ok (.invokevirtual 145, 3) := by decide +kernel
theorem dX10_would_51 : decode cX10_would 51 = .ok (.aload_n 0, 1) := by decide +kernel
theorem dX10_would_52 : decode cX10_would 52 = .ok (.getfield 53, 3) := by decide +kernel
theorem dX10_would_55 : decode cX10_would 55 = .ok (.aload_n 0, 1) := by decide +kernel
theorem dX10_would_56 : decode cX10_would 56 = .ok (.getfield 19, 3) := by decide +kernel
theorem dX10_would_59 : decode cX10_would 59 = .ok (.invokevirtual 178, 3) := by decide +kernel
theorem dX10_would_62 : decode cX10_would 62 = .ok (.iload_n 1, 1) := by decide +kernel
theorem dX10_would_63 : decode cX10_would 63 = .ok (.iload_n 2, 1) := by decide +kernel
theorem dX10_would_64 : decode cX10_would 64 = .ok (.invokestatic 182, 3) := by decide +kernel
theorem dX10_would_67 : decode cX10_would 67 = .ok (.invokevirtual 188, 3) := by decide +kernel
theorem dX10_would_70 : decode cX10_would 70 = .ok (.aload_n 0, 1) := by decide +kernel
theorem dX10_would_71 : decode cX10_would 71 = .ok (.getfield 49, 3) := by decide +kernel
theorem dX10_would_74 : decode cX10_would 74 = .ok (.aload_n 0, 1) := by decide +kernel
theorem dX10_would_75 : decode cX10_would 75 = .ok (.getfield 53, 3) := by decide +kernel
theorem dX10_would_78 : decode cX10_would 78 = .ok (.invokevirtual 192, 3) := by decide +kernel
theorem dX10_would_81 : decode cX10_would 81 = .ok (.ireturn, 1) := by decide +kernel
set_option maxRecDepth 20000 in
theorem ggX10_showing_X10_learnCovers : GoodIn wsX10_showing wsX10_learnCovers := goodIn_r _ [7, 1, 8, 9, 10, 11, 12, 13, 14, 15, 16, 17, 18, 19, 20, 21, 22, 23, 24, 25, 26, 27, 28, 29, 30, 31, 32, 33, 34, 35, 36, 37, 38, 39, 40, 41, 42, 43, 44, 45, 46, 47, 48, 49, 50, 51, 52, 53, 54, 55, 56, 57, 58, 59, 60, 61, 62, 63, 64, 65, 66, 67, 68, 69, 70, 71, 72, 73, 74, 75, 76, 77, 78, 79, 80, 81, 159, 160, 161, 162, 163, 164, 165, 166, 167, 168, 169, 170, 171, 172, 173, 174, 175, 176, 177, 178, 179, 180] (by decide +kernel) (by decide +kernel)
set_option maxRecDepth 20000 in
theorem gX10_showing_X10_learnCovers : GoodIn wsX10_showing (wsV RX10 145 RX10 yX10_learnCovers wsX10_learnCovers) := goodIn_app (goodIn_of _ (by decide +kernel)) ggX10_showing_X10_learnCovers
set_option maxRecDepth 20000 in
theorem ggX10_showing_X2_reachedCount : GoodIn wsX10_showing wsX2_reachedCount := goodIn_r _ [85, 39, 86, 52, 53, 54, 55, 56, 57, 177, 178, 179, 180] (by decide +kernel) (by decide +kernel)
set_option maxRecDepth 20000 in
theorem gX10_showing_X2_reachedCount : GoodIn wsX10_showing (wsV RX10 196 RX2 yX2_reachedCount wsX2_reachedCount) := goodIn_app (goodIn_of _ (by decide +kernel)) ggX10_showing_X2_reachedCount
set_option maxRecDepth 20000 in
theorem ggX10_showing_X7_find : GoodIn wsX10_showing wsX7_find := goodIn_r _ [91, 92, 93, 94, 95, 96, 18, 97, 20, 98, 99, 100, 101, 102, 103, 104, 105, 25, 106, 107, 108, 109, 110, 46, 31, 47, 111, 112, 90, 113, 114, 115, 116, 117, 118, 22, 23, 24, 119, 120, 121, 36, 122, 39, 65, 66, 67, 123, 124, 125, 126, 40, 127, 59, 60, 128, 129, 130, 131, 132, 133, 134, 135, 41, 68, 136, 137, 138, 139, 140, 141, 142, 143, 144, 38, 145, 78, 79, 58, 80, 45, 146, 147, 148, 149, 150, 151, 152, 153, 181, 182, 175, 176, 177, 178, 179, 180] (by decide +kernel) (by decide +kernel)
set_option maxRecDepth 20000 in
theorem gX10_showing_X7_find : GoodIn wsX10_showing (wsV RX10 199 RX7 yX7_find wsX7_find) := goodIn_app (goodIn_of _ (by decide +kernel)) ggX10_showing_X7_find
set_option maxRecDepth 20000 in
theorem ggX10_showing_X7_knotAt : GoodIn wsX10_showing wsX7_knotAt := goodIn_r _ [157, 92, 158, 22, 23, 18, 24, 20, 25, 181, 182, 175, 176] (by decide +kernel) (by decide +kernel)
set_option maxRecDepth 20000 in
theorem gX10_showing_X7_knotAt : GoodIn wsX10_showing (wsV RX10 203 RX7 yX7_knotAt wsX7_knotAt) := goodIn_app (goodIn_of _ (by decide +kernel)) ggX10_showing_X7_knotAt
theorem dX10_showing_0 : decode cX10_showing 0 = .ok (.aload_n 0, 1) := by decide +kernel
theorem dX10_showing_1 : decode cX10_showing 1 = .ok (.invokevirtual 145, 3) := by decide +kernel
theorem dX10_showing_4 : decode cX10_showing 4 = .ok (.iload_n 1, 1) := by decide +kernel
theorem dX10_showing_5 : decode cX10_showing 5 = .ok (.ifCond .lt 14, 3) := by decide +kernel
theorem dX10_showing_8 : decode cX10_showing 8 = .ok (.iload_n 1, 1) := by decide +kernel
theorem dX10_showing_9 : decode cX10_showing 9 = .ok (.aload_n 0, 1) := by decide +kernel
theorem dX10_showing_10 : decode cX10_showing 10 = .ok (.getfield 49, 3) := by decide +kernel
theorem dX10_showing_13 : decode cX10_showing 13 = .ok (.invokevirtual 196, 3) := by decide +kernel
theorem dX10_showing_16 : decode cX10_showing 16 = .ok (.if_icmp .lt 6, 3) := by decide +kernel
theorem dX10_showing_19 : decode cX10_showing 19 = .ok (.bipush (-9), 2) := by decide +kernel
theorem dX10_showing_21 : decode cX10_showing 21 = .ok (.ireturn, 1) := by decide +kernel
theorem dX10_showing_22 : decode cX10_showing 22 = .ok (.aload_n 0, 1) := by decide +kernel
theorem dX10_showing_23 : decode cX10_showing 23 = .ok (.getfield 66, 3) := by decide +kernel
theorem dX10_showing_26 : decode cX10_showing 26 = .ok (.aload_n 0, 1) := by decide +kernel
theorem dX10_showing_27 : decode cX10_showing 27 = .ok (.getfield 49, 3) := by decide +kernel
theorem dX10_showing_30 : decode cX10_showing 30 = .ok (.invokevirtual 199, 3) := by decide +kernel
theorem dX10_showing_33 : decode cX10_showing 33 = .ok (.aload_n 0, 1) := by decide +kernel
theorem dX10_showing_34 : decode cX10_showing 34 = .ok (.getfield 66, 3) := by decide +kernel
theorem dX10_showing_37 : decode cX10_showing 37 = .ok (.iload_n 1, 1) := by decide +kernel
theorem dX10_showing_38 : decode cX10_showing 38 = .ok (.invokevirtual 203, 3) := by decide +kernel
theorem dX10_showing_41 : decode cX10_showing 41 = .ok (.ireturn, 1) := by decide +kernel
set_option maxRecDepth 20000 in
theorem ggX10_look_X10_learnCovers : GoodIn wsX10_look wsX10_learnCovers := goodIn_r _ [7, 1, 8, 9, 10, 11, 12, 13, 14, 15, 16, 17, 18, 19, 20, 21, 22, 23, 24, 25, 26, 27, 28, 29, 30, 31, 32, 33, 34, 35, 36, 37, 38, 39, 40, 41, 42, 43, 44, 45, 46, 47, 48, 49, 50, 51, 52, 53, 54, 55, 56, 57, 58, 59, 60, 61, 62, 63, 64, 65, 66, 67, 68, 69, 70, 71, 72, 73, 74, 75, 76, 77, 78, 79, 80, 81, 147, 148, 149, 150, 151, 152, 153, 154, 155, 156, 157, 158, 159, 160, 161, 162, 163, 164, 165, 166, 167, 168] (by decide +kernel) (by decide +kernel)
set_option maxRecDepth 20000 in
theorem gX10_look_X10_learnCovers : GoodIn wsX10_look (wsV RX10 145 RX10 yX10_learnCovers wsX10_learnCovers) := goodIn_app (goodIn_of _ (by decide +kernel)) ggX10_look_X10_learnCovers
set_option maxRecDepth 20000 in
theorem ggX10_look_X2_reachedCount : GoodIn wsX10_look wsX2_reachedCount := goodIn_r _ [85, 39, 86, 52, 53, 54, 55, 56, 57, 165, 166, 167, 168] (by decide +kernel) (by decide +kernel)
set_option maxRecDepth 20000 in
theorem gX10_look_X2_reachedCount : GoodIn wsX10_look (wsV RX10 196 RX2 yX2_reachedCount wsX2_reachedCount) := goodIn_app (goodIn_of _ (by decide +kernel)) ggX10_look_X2_reachedCount
set_option maxRecDepth 20000 in
theorem ggX10_look_X4_fit : GoodIn wsX10_look wsX4_fit := goodIn_r _ [90, 91] (by decide +kernel) (by decide +kernel)
set_option maxRecDepth 20000 in
theorem gX10_look_X4_fit : GoodIn wsX10_look (va_wsS RX10 206 yX4_fit wsX4_fit) := goodIn_app (goodIn_of _ (by decide +kernel)) ggX10_look_X4_fit
set_option maxRecDepth 20000 in
theorem ggX10_look_X6_clear : GoodIn wsX10_look wsX6_clear := goodIn_r _ [95, 20, 163, 164] (by decide +kernel) (by decide +kernel)
set_option maxRecDepth 20000 in
theorem gX10_look_X6_clear : GoodIn wsX10_look (wsV RX10 212 RX6 yX6_clear wsX6_clear) := goodIn_app (goodIn_of _ (by decide +kernel)) ggX10_look_X6_clear
set_option maxRecDepth 20000 in
theorem ggX10_look_X4_at : GoodIn wsX10_look wsX4_at := goodIn_r _ [98, 91] (by decide +kernel) (by decide +kernel)
set_option maxRecDepth 20000 in
theorem gX10_look_X4_at : GoodIn wsX10_look (va_wsS RX10 213 yX4_at wsX4_at) := goodIn_app (goodIn_of _ (by decide +kernel)) ggX10_look_X4_at
set_option maxRecDepth 20000 in
theorem ggX10_look_X6_add : GoodIn wsX10_look wsX6_add := goodIn_r _ [102, 20, 103, 104, 105, 18, 106, 25, 107, 108, 109, 110, 163, 164] (by decide +kernel) (by decide +kernel)
set_option maxRecDepth 20000 in
theorem gX10_look_X6_add : GoodIn wsX10_look (wsV RX10 216 RX6 yX6_add wsX6_add) := goodIn_app (goodIn_of _ (by decide +kernel)) ggX10_look_X6_add
set_option maxRecDepth 20000 in
theorem ggX10_look_X2_firstMisplaced : GoodIn wsX10_look wsX2_firstMisplaced := goodIn_r _ [114, 115, 16, 17, 18, 19, 20, 116, 22, 23, 24, 25, 61, 62, 63, 36, 64, 39, 65, 66, 31, 67, 117, 118, 119, 120, 121, 122, 123, 124, 125, 126, 127, 128, 41, 129, 59, 60, 68, 46, 47, 130, 131, 132, 133, 134, 135, 136, 137, 40, 163, 164, 165, 166, 167, 168] (by decide +kernel) (by decide +kernel)
set_option maxRecDepth 20000 in
theorem gX10_look_X2_firstMisplaced : GoodIn wsX10_look (wsV RX10 217 RX2 yX2_firstMisplaced wsX2_firstMisplaced) := goodIn_app (goodIn_of _ (by decide +kernel)) ggX10_look_X2_firstMisplaced
set_option maxRecDepth 20000 in
theorem ggX10_look_X2_firstNotShown : GoodIn wsX10_look wsX2_firstNotShown := goodIn_r _ [141, 115, 16, 17, 18, 19, 20, 116, 22, 23, 24, 25, 142, 143, 144, 36, 145, 38, 39, 146, 78, 31, 79, 58, 59, 60, 80, 66, 67, 45, 46, 47, 134, 135, 136, 137, 40, 129, 121, 122, 123, 124, 125, 126, 127, 128, 41, 68, 130, 131, 132, 133, 65, 163, 164, 165, 166, 167, 168] (by decide +kernel) (by decide +kernel)
set_option maxRecDepth 20000 in
theorem gX10_look_X2_firstNotShown : GoodIn wsX10_look (wsV RX10 221 RX2 yX2_firstNotShown wsX2_firstNotShown) := goodIn_app (goodIn_of _ (by decide +kernel)) ggX10_look_X2_firstNotShown
theorem dX10_look_0 : decode cX10_look 0 = .ok (.aload_n 0, 1) := by decide +kernel
theorem dX10_look_1 : decode cX10_look 1 = .ok (.invokevirtual 145, 3) := by decide +kernel
theorem dX10_look_4 : decode cX10_look 4 = .ok (.aload_n 0, 1) := by decide +kernel
theorem dX10_look_5 : decode cX10_look 5 = .ok (.getfield 49, 3) := by decide +kernel
theorem dX10_look_8 : decode cX10_look 8 = .ok (.invokevirtual 196, 3) := by decide +kernel
theorem dX10_look_11 : decode cX10_look 11 = .ok (.istore_n 3, 1) := by decide +kernel
theorem dX10_look_12 : decode cX10_look 12 = .ok (.lload_n 1, 1) := by decide +kernel
theorem dX10_look_13 : decode cX10_look 13 = .ok (.iload_n 3, 1) := by decide +kernel
theorem dX10_look_14 : decode cX10_look 14 = .ok (.invokestatic 206, 3) := by decide +kernel
theorem dX10_look_17 : decode cX10_look 17 = .ok (.ifCond .ne 6, 3) := by decide +kernel
theorem dX10_look_20 : decode cX10_look 20 = .ok (.bipush (-2), 2) := by decide +kernel
theorem dX10_look_22 : decode cX10_look 22 = .ok (.ireturn, 1) := by decide +kernel
theorem dX10_look_23 : decode cX10_look 23 = .ok (.aload_n 0, 1) := by decide +kernel
theorem dX10_look_24 : decode cX10_look 24 = .ok (.getfield 70, 3) := by decide +kernel
theorem dX10_look_27 : decode cX10_look 27 = .ok (.invokevirtual 212, 3) := by decide +kernel
theorem dX10_look_30 : decode cX10_look 30 = .ok (.iconst 0, 1) := by decide +kernel
theorem dX10_look_31 : decode cX10_look 31 = .ok (.istore 4, 2) := by decide +kernel
theorem dX10_look_33 : decode cX10_look 33 = .ok (.iload 4, 2) := by decide +kernel
theorem dX10_look_35 : decode cX10_look 35 = .ok (.iload_n 3, 1) := by decide +kernel
theorem dX10_look_36 : decode cX10_look 36 = .ok (.if_icmp .ge 23, 3) := by decide +kernel
theorem dX10_look_39 : decode cX10_look 39 = .ok (.aload_n 0, 1) := by decide +kernel
theorem dX10_look_40 : decode cX10_look 40 = .ok (.getfield 70, 3) := by decide +kernel
theorem dX10_look_43 : decode cX10_look 43 = .ok (.lload_n 1, 1) := by decide +kernel
theorem dX10_look_44 : decode cX10_look 44 = .ok (.iload 4, 2) := by decide +kernel
theorem dX10_look_46 : decode cX10_look 46 = .ok (.iload_n 3, 1) := by decide +kernel
theorem dX10_look_47 : decode cX10_look 47 = .ok (.invokestatic 213, 3) := by decide +kernel
theorem dX10_look_50 : decode cX10_look 50 = .ok (.invokevirtual 216, 3) := by decide +kernel
theorem dX10_look_53 : decode cX10_look 53 = .ok (.iinc 4 1, 3) := by decide +kernel
theorem dX10_look_56 : decode cX10_look 56 = .ok (.goto (-23), 3) := by decide +kernel
theorem dX10_look_59 : decode cX10_look 59 = .ok (.aload_n 0, 1) := by decide +kernel
theorem dX10_look_60 : decode cX10_look 60 = .ok (.getfield 49, 3) := by decide +kernel
theorem dX10_look_63 : decode cX10_look 63 = .ok (.aload_n 0, 1) := by decide +kernel
theorem dX10_look_64 : decode cX10_look 64 = .ok (.getfield 70, 3) := by decide +kernel
theorem dX10_look_67 : decode cX10_look 67 = .ok (.invokevirtual 217, 3) := by decide +kernel
theorem dX10_look_70 : decode cX10_look 70 = .ok (.istore 4, 2) := by decide +kernel
theorem dX10_look_72 : decode cX10_look 72 = .ok (.iload 4, 2) := by decide +kernel
theorem dX10_look_74 : decode cX10_look 74 = .ok (.bipush (-9), 2) := by decide +kernel
theorem dX10_look_76 : decode cX10_look 76 = .ok (.if_icmp .eq 8, 3) := by decide +kernel
theorem dX10_look_79 : decode cX10_look 79 = .ok (.iload 4, 2) := by decide +kernel
theorem dX10_look_81 : decode cX10_look 81 = .ok (.goto 14, 3) := by decide +kernel
theorem dX10_look_84 : decode cX10_look 84 = .ok (.aload_n 0, 1) := by decide +kernel
theorem dX10_look_85 : decode cX10_look 85 = .ok (.getfield 49, 3) := by decide +kernel
theorem dX10_look_88 : decode cX10_look 88 = .ok (.aload_n 0, 1) := by decide +kernel
theorem dX10_look_89 : decode cX10_look 89 = .ok (.getfield 70, 3) := by decide +kernel
theorem dX10_look_92 : decode cX10_look 92 = .ok (.invokevirtual 221, 3) := by decide +kernel
theorem dX10_look_95 : decode cX10_look 95 = .ok (.ireturn, 1) := by decide +kernel
set_option maxRecDepth 20000 in
theorem ggX10_judge_X4_fit : GoodIn wsX10_judge wsX4_fit := goodIn_r _ [6, 7] (by decide +kernel) (by decide +kernel)
set_option maxRecDepth 20000 in
theorem gX10_judge_X4_fit : GoodIn wsX10_judge (va_wsS RX10 206 yX4_fit wsX4_fit) := goodIn_app (goodIn_of _ (by decide +kernel)) ggX10_judge_X4_fit
set_option maxRecDepth 20000 in
theorem ggX10_judge_X3_copy : GoodIn wsX10_judge wsX3_copy := goodIn_r _ [12, 13, 14, 15, 16, 17, 18, 19, 20, 21, 22, 23, 24, 25, 26, 27, 28, 29, 30, 31, 32, 33, 34, 35, 36, 37, 38, 39, 40, 41, 42, 252, 253, 254, 255, 256] (by decide +kernel) (by decide +kernel)
set_option maxRecDepth 20000 in
theorem gX10_judge_X3_copy : GoodIn wsX10_judge (wsV RX10 224 RX3 yX3_copy wsX3_copy) := goodIn_app (goodIn_of _ (by decide +kernel)) ggX10_judge_X3_copy
set_option maxRecDepth 20000 in
theorem ggX10_judge_X4_at : GoodIn wsX10_judge wsX4_at := goodIn_r _ [45, 7] (by decide +kernel) (by decide +kernel)
set_option maxRecDepth 20000 in
theorem gX10_judge_X4_at : GoodIn wsX10_judge (va_wsS RX10 213 yX4_at wsX4_at) := goodIn_app (goodIn_of _ (by decide +kernel)) ggX10_judge_X4_at
set_option maxRecDepth 20000 in
theorem ggX10_judge_X10_isDoneOrSo : GoodIn wsX10_judge wsX10_isDoneOrSo := goodIn_r _ [50, 51, 1, 52, 53, 54, 55, 11, 56, 14, 57, 58, 59, 19, 60, 21, 61, 27, 28, 29, 30, 62, 63, 64, 65, 66, 67, 68, 69, 70, 71, 72, 73, 74, 75, 76, 77, 78, 79, 80, 81, 82, 83, 84, 85, 86, 87, 88, 89, 90, 91, 92, 93, 94, 95, 96, 97, 98, 99, 100, 101, 102, 103, 104, 105, 106, 107, 108, 109, 110, 111, 112, 113, 114, 115, 116, 117, 118, 119, 120, 121, 122, 123, 124, 125, 126, 13, 127, 128, 129, 130, 131, 132, 133, 134, 135, 136, 137, 138, 139, 140, 141, 142, 143, 144, 145, 146, 147, 148, 149, 150, 151, 152, 153, 154, 155, 156, 157, 158, 159, 160, 40, 41, 42, 161, 162, 163, 164, 15, 165, 32, 33, 34, 35, 36, 37, 38, 39, 166, 167, 168, 169, 170, 171, 172, 173, 174, 175, 176, 177, 178, 179, 180, 181, 182, 183, 184, 185, 186, 187, 188, 189, 190, 191, 192, 193, 194, 195, 196, 197, 198, 199, 200, 23, 24, 25, 201, 202, 203, 204, 205, 206, 207, 208, 209, 210, 211, 212, 213, 214, 215, 216, 217, 218, 219, 220, 221, 222, 223, 224, 225, 226, 26, 227, 228, 229, 230, 231, 232, 233, 234, 235, 236, 237, 238, 239, 240, 241, 242, 243, 244, 245, 246, 247, 248, 249, 250, 251, 252, 253, 254, 255, 256, 257, 258, 259, 260, 261, 262, 263] (by decide +kernel) (by decide +kernel)
set_option maxRecDepth 20000 in
theorem gX10_judge_X10_isDoneOrSo : GoodIn wsX10_judge (wsV RX10 227 RX10 yX10_isDoneOrSo wsX10_isDoneOrSo) := goodIn_app (goodIn_of _ (by decide +kernel)) ggX10_judge_X10_isDoneOrSo
theorem dX10_judge_0 : decode cX10_judge 0 = .ok (.iload_n 1, 1) := by decide +kernel
theorem dX10_judge_1 : decode cX10_judge 1 = .ok (.iconst 1, 1) := by decide +kernel
theorem dX10_judge_2 : decode cX10_judge 2 = .ok (.if_icmp .lt 8, 3) := by decide +kernel
theorem dX10_judge_5 : decode cX10_judge 5 = .ok (.iload_n 1, 1) := by decide +kernel
theorem dX10_judge_6 : decode cX10_judge 6 = .ok (.iconst 4, 1) := by decide +kernel
theorem dX10_judge_7 : decode cX10_judge 7 = .ok (.if_icmp .le 6, 3) := by decide +kernel
theorem dX10_judge_10 : decode cX10_judge 10 = .ok (.bipush (-2), 2) := by decide +kernel
theorem dX10_judge_12 : decode cX10_judge 12 = .ok (.ireturn, 1) := by decide +kernel
theorem dX10_judge_13 : decode cX10_judge 13 = .ok (.iconst 3, 1) := by decide +kernel
theorem dX10_judge_14 : decode cX10_judge 14 = .ok (.iload_n 1, 1) := by decide +kernel
theorem dX10_judge_15 : decode cX10_judge 15 = .ok (.imul, 1) := by decide +kernel
theorem dX10_judge_16 : decode cX10_judge 16 = .ok (.istore 4, 2) := by decide +kernel
theorem dX10_judge_18 : decode cX10_judge 18 = .ok (.lload_n 2, 1) := by decide +kernel
theorem dX10_judge_19 : decode cX10_judge 19 = .ok (.iload 4, 2) := by decide +kernel
theorem dX10_judge_21 : decode cX10_judge 21 = .ok (.invokestatic 206, 3) := by decide +kernel
theorem dX10_judge_24 : decode cX10_judge 24 = .ok (.ifCond .ne 6, 3) := by decide +kernel
theorem dX10_judge_27 : decode cX10_judge 27 = .ok (.bipush (-2), 2) := by decide +kernel
theorem dX10_judge_29 : decode cX10_judge 29 = .ok (.ireturn, 1) := by decide +kernel
theorem dX10_judge_30 : decode cX10_judge 30 = .ok (.aload_n 0, 1) := by decide +kernel
theorem dX10_judge_31 : decode cX10_judge 31 = .ok (.getfield 23, 3) := by decide +kernel
theorem dX10_judge_34 : decode cX10_judge 34 = .ok (.aload_n 0, 1) := by decide +kernel
theorem dX10_judge_35 : decode cX10_judge 35 = .ok (.getfield 19, 3) := by decide +kernel
theorem dX10_judge_38 : decode cX10_judge 38 = .ok (.invokevirtual 224, 3) := by decide +kernel
theorem dX10_judge_41 : decode cX10_judge 41 = .ok (.iconst 0, 1) := by decide +kernel
theorem dX10_judge_42 : decode cX10_judge 42 = .ok (.istore 5, 2) := by decide +kernel
theorem dX10_judge_44 : decode cX10_judge 44 = .ok (.iload 5, 2) := by decide +kernel
theorem dX10_judge_46 : decode cX10_judge 46 = .ok (.iload_n 1, 1) := by decide +kernel
theorem dX10_judge_47 : decode cX10_judge 47 = .ok (.if_icmp .ge 65, 3) := by decide +kernel
theorem dX10_judge_50 : decode cX10_judge 50 = .ok (.iconst 3, 1) := by decide +kernel
theorem dX10_judge_51 : decode cX10_judge 51 = .ok (.iload 5, 2) := by decide +kernel
theorem dX10_judge_53 : decode cX10_judge 53 = .ok (.imul, 1) := by decide +kernel
theorem dX10_judge_54 : decode cX10_judge 54 = .ok (.istore 6, 2) := by decide +kernel
theorem dX10_judge_56 : decode cX10_judge 56 = .ok (.lload_n 2, 1) := by decide +kernel
theorem dX10_judge_57 : decode cX10_judge 57 = .ok (.iload 6, 2) := by decide +kernel
theorem dX10_judge_59 : decode cX10_judge 59 = .ok (.iload 4, 2) := by decide +kernel
theorem dX10_judge_61 : decode cX10_judge 61 = .ok (.invokestatic 213, 3) := by decide +kernel
theorem dX10_judge_64 : decode cX10_judge 64 = .ok (.istore 7, 2) := by decide +kernel
theorem dX10_judge_66 : decode cX10_judge 66 = .ok (.lload_n 2, 1) := by decide +kernel
theorem dX10_judge_67 : decode cX10_judge 67 = .ok (.iload 6, 2) := by decide +kernel
theorem dX10_judge_69 : decode cX10_judge 69 = .ok (.iconst 1, 1) := by decide +kernel
theorem dX10_judge_70 : decode cX10_judge 70 = .ok (.iadd, 1) := by decide +kernel
theorem dX10_judge_71 : decode cX10_judge 71 = .ok (.iload 4, 2) := by decide +kernel
theorem dX10_judge_73 : decode cX10_judge 73 = .ok (.invokestatic 213, 3) := by decide +kernel
theorem dX10_judge_76 : decode cX10_judge 76 = .ok (.istore 8, 2) := by decide +kernel
theorem dX10_judge_78 : decode cX10_judge 78 = .ok (.lload_n 2, 1) := by decide +kernel
theorem dX10_judge_79 : decode cX10_judge 79 = .ok (.iload 6, 2) := by decide +kernel
theorem dX10_judge_81 : decode cX10_judge 81 = .ok (.iconst 2, 1) := by decide +kernel
theorem dX10_judge_82 : decode cX10_judge 82 = .ok (.iadd, 1) := by decide +kernel
theorem dX10_judge_83 : decode cX10_judge 83 = .ok (.iload 4, 2) := by decide +kernel
theorem dX10_judge_85 : decode cX10_judge 85 = .ok (.invokestatic 213, 3) := by decide +kernel
theorem dX10_judge_88 : decode cX10_judge 88 = .ok (.istore 9, 2) := by decide +kernel
theorem dX10_judge_90 : decode cX10_judge 90 = .ok (.aload_n 0, 1) := by decide +kernel
theorem dX10_judge_91 : decode cX10_judge 91 = .ok (.iload 7, 2) := by decide +kernel
theorem dX10_judge_93 : decode cX10_judge 93 = .ok (.iload 8, 2) := by decide +kernel
theorem dX10_judge_95 : decode cX10_judge 95 = .ok (.iload 9, 2) := by decide +kernel
theorem dX10_judge_97 : decode cX10_judge 97 = .ok (.invokevirtual 227, 3) := by decide +kernel
theorem dX10_judge_100 : decode cX10_judge 100 = .ok (.ifCond .ne 6, 3) := by decide +kernel
theorem dX10_judge_103 : decode cX10_judge 103 = .ok (.iload 5, 2) := by decide +kernel
theorem dX10_judge_105 : decode cX10_judge 105 = .ok (.ireturn, 1) := by decide +kernel
theorem dX10_judge_106 : decode cX10_judge 106 = .ok (.iinc 5 1, 3) := by decide +kernel
theorem dX10_judge_109 : decode cX10_judge 109 = .ok (.goto (-65), 3) := by decide +kernel
theorem dX10_judge_112 : decode cX10_judge 112 = .ok (.bipush (-9), 2) := by decide +kernel
theorem dX10_judge_114 : decode cX10_judge 114 = .ok (.ireturn, 1) := by decide +kernel
set_option maxRecDepth 20000 in
theorem ggX10_see_X6_isFull : GoodIn wsX10_see wsX6_isFull := goodIn_r _ [6, 7, 8, 35, 36] (by decide +kernel) (by decide +kernel)
set_option maxRecDepth 20000 in
theorem gX10_see_X6_isFull : GoodIn wsX10_see (wsV RX10 231 RX6 yX6_isFull wsX6_isFull) := goodIn_app (goodIn_of _ (by decide +kernel)) ggX10_see_X6_isFull
set_option maxRecDepth 20000 in
theorem ggX10_see_X6_add : GoodIn wsX10_see wsX6_add := goodIn_r _ [12, 7, 13, 14, 15, 5, 16, 8, 17, 3, 4, 6, 35, 36] (by decide +kernel) (by decide +kernel)
set_option maxRecDepth 20000 in
theorem gX10_see_X6_add : GoodIn wsX10_see (wsV RX10 216 RX6 yX6_add wsX6_add) := goodIn_app (goodIn_of _ (by decide +kernel)) ggX10_see_X6_add
set_option maxRecDepth 20000 in
theorem ggX10_see_X6_size : GoodIn wsX10_see wsX6_size := goodIn_r _ [21, 7, 35, 36] (by decide +kernel) (by decide +kernel)
set_option maxRecDepth 20000 in
theorem gX10_see_X6_size : GoodIn wsX10_see (wsV RX10 232 RX6 yX6_size wsX6_size) := goodIn_app (goodIn_of _ (by decide +kernel)) ggX10_see_X6_size
theorem dX10_see_0 : decode cX10_see 0 = .ok (.iload_n 1, 1) := by decide +kernel
theorem dX10_see_1 : decode cX10_see 1 = .ok (.ifCond .lt 28, 3) := by decide +kernel
theorem dX10_see_4 : decode cX10_see 4 = .ok (.iload_n 1, 1) := by decide +kernel
theorem dX10_see_5 : decode cX10_see 5 = .ok (.bipush 8, 2) := by decide +kernel
theorem dX10_see_7 : decode cX10_see 7 = .ok (.if_icmp .ge 22, 3) := by decide +kernel
theorem dX10_see_10 : decode cX10_see 10 = .ok (.iload_n 2, 1) := by decide +kernel
theorem dX10_see_11 : decode cX10_see 11 = .ok (.ifCond .lt 18, 3) := by decide +kernel
theorem dX10_see_14 : decode cX10_see 14 = .ok (.iload_n 2, 1) := by decide +kernel
theorem dX10_see_15 : decode cX10_see 15 = .ok (.bipush 8, 2) := by decide +kernel
theorem dX10_see_17 : decode cX10_see 17 = .ok (.if_icmp .ge 12, 3) := by decide +kernel
theorem dX10_see_20 : decode cX10_see 20 = .ok (.iload_n 3, 1) := by decide +kernel
theorem dX10_see_21 : decode cX10_see 21 = .ok (.ifCond .lt 8, 3) := by decide +kernel
theorem dX10_see_24 : decode cX10_see 24 = .ok (.iload_n 3, 1) := by decide +kernel
theorem dX10_see_25 : decode cX10_see 25 = .ok (.iconst 1, 1) := by decide +kernel
theorem dX10_see_26 : decode cX10_see 26 = .ok (.if_icmp .le 6, 3) := by decide +kernel
theorem dX10_see_29 : decode cX10_see 29 = .ok (.bipush (-2), 2) := by decide +kernel
theorem dX10_see_31 : decode cX10_see 31 = .ok (.ireturn, 1) := by decide +kernel
theorem dX10_see_32 : decode cX10_see 32 = .ok (.aload_n 0, 1) := by decide +kernel
theorem dX10_see_33 : decode cX10_see 33 = .ok (.getfield 42, 3) := by decide +kernel
theorem dX10_see_36 : decode cX10_see 36 = .ok (.invokevirtual 231, 3) := by decide +kernel
theorem dX10_see_39 : decode cX10_see 39 = .ok (.ifCond .eq 6, 3) := by decide +kernel
theorem dX10_see_42 : decode cX10_see 42 = .ok (.bipush (-4), 2) := by decide +kernel
theorem dX10_see_44 : decode cX10_see 44 = .ok (.ireturn, 1) := by decide +kernel
theorem dX10_see_45 : decode cX10_see 45 = .ok (.aload_n 0, 1) := by decide +kernel
theorem dX10_see_46 : decode cX10_see 46 = .ok (.getfield 42, 3) := by decide +kernel
theorem dX10_see_49 : decode cX10_see 49 = .ok (.bipush 100, 2) := by decide +kernel
theorem dX10_see_51 : decode cX10_see 51 = .ok (.iload_n 3, 1) := by decide +kernel
theorem dX10_see_52 : decode cX10_see 52 = .ok (.imul, 1) := by decide +kernel
theorem dX10_see_53 : decode cX10_see 53 = .ok (.bipush 10, 2) := by decide +kernel
theorem dX10_see_55 : decode cX10_see 55 = .ok (.iload_n 1, 1) := by decide +kernel
theorem dX10_see_56 : decode cX10_see 56 = .ok (.imul, 1) := by decide +kernel
theorem dX10_see_57 : decode cX10_see 57 = .ok (.iadd, 1) := by decide +kernel
theorem dX10_see_58 : decode cX10_see 58 = .ok (.iload_n 2, 1) := by decide +kernel
theorem dX10_see_59 : decode cX10_see 59 = .ok (.iadd, 1) := by decide +kernel
theorem dX10_see_60 : decode cX10_see 60 = .ok (.invokevirtual 216, 3) := by decide +kernel
theorem dX10_see_63 : decode cX10_see 63 = .ok (.aload_n 0, 1) := by decide +kernel
theorem dX10_see_64 : decode cX10_see 64 = .ok (.getfield 42, 3) := by decide +kernel
theorem dX10_see_67 : decode cX10_see 67 = .ok (.invokevirtual 232, 3) := by decide +kernel
theorem dX10_see_70 : decode cX10_see 70 = .ok (.ireturn, 1) := by decide +kernel
set_option maxRecDepth 20000 in
theorem ggX10_unsee_X6_size : GoodIn wsX10_unsee wsX6_size := goodIn_r _ [6, 7, 25, 26] (by decide +kernel) (by decide +kernel)
set_option maxRecDepth 20000 in
theorem gX10_unsee_X6_size : GoodIn wsX10_unsee (wsV RX10 232 RX6 yX6_size wsX6_size) := goodIn_app (goodIn_of _ (by decide +kernel)) ggX10_unsee_X6_size
set_option maxRecDepth 20000 in
theorem ggX10_unsee_X6_clear : GoodIn wsX10_unsee wsX6_clear := goodIn_r _ [11, 7, 25, 26] (by decide +kernel) (by decide +kernel)
set_option maxRecDepth 20000 in
theorem gX10_unsee_X6_clear : GoodIn wsX10_unsee (wsV RX10 212 RX6 yX6_clear wsX6_clear) := goodIn_app (goodIn_of _ (by decide +kernel)) ggX10_unsee_X6_clear
theorem dX10_unsee_0 : decode cX10_unsee 0 = .ok (.aload_n 0, 1) := by decide +kernel
theorem dX10_unsee_1 : decode cX10_unsee 1 = .ok (.getfield 42, 3) := by decide +kernel
theorem dX10_unsee_4 : decode cX10_unsee 4 = .ok (.invokevirtual 232, 3) := by decide +kernel
theorem dX10_unsee_7 : decode cX10_unsee 7 = .ok (.istore_n 1, 1) := by decide +kernel
theorem dX10_unsee_8 : decode cX10_unsee 8 = .ok (.aload_n 0, 1) := by decide +kernel
theorem dX10_unsee_9 : decode cX10_unsee 9 = .ok (.getfield 42, 3) := by decide +kernel
theorem dX10_unsee_12 : decode cX10_unsee 12 = .ok (.invokevirtual 212, 3) := by decide +kernel
theorem dX10_unsee_15 : decode cX10_unsee 15 = .ok (.iload_n 1, 1) := by decide +kernel
theorem dX10_unsee_16 : decode cX10_unsee 16 = .ok (.ireturn, 1) := by decide +kernel
set_option maxRecDepth 20000 in
theorem ggX10_missing_X3_isFull : GoodIn wsX10_missing wsX3_isFull := goodIn_r _ [6, 7, 8, 9, 10, 11, 12, 13, 14, 135, 136, 137, 138, 139] (by decide +kernel) (by decide +kernel)
set_option maxRecDepth 20000 in
theorem gX10_missing_X3_isFull : GoodIn wsX10_missing (wsV RX10 109 RX3 yX3_isFull wsX3_isFull) := goodIn_app (goodIn_of _ (by decide +kernel)) ggX10_missing_X3_isFull
set_option maxRecDepth 20000 in
theorem ggX10_missing_X10_mayBeMissing : GoodIn wsX10_missing wsX10_mayBeMissing := goodIn_r _ [19, 1, 20, 21, 22, 23, 5, 24, 25, 26, 27, 28, 7, 29, 30, 31, 11, 32, 13, 33, 34, 35, 36, 14, 37, 38, 39, 40, 41, 42, 43, 44, 45, 46, 47, 48, 49, 50, 51, 52, 53, 54, 55, 56, 57, 58, 59, 60, 61, 62, 63, 64, 65, 66, 67, 68, 69, 70, 71, 72, 73, 74, 75, 76, 77, 78, 79, 80, 81, 82, 83, 84, 85, 86, 87, 88, 89, 90, 91, 92, 93, 94, 95, 96, 97, 98, 99, 100, 101, 102, 103, 18, 104, 105, 106, 107, 108, 109, 110, 111, 112, 113, 114, 115, 116, 117, 118, 119, 120, 122, 123, 124, 125, 126, 127, 128, 129, 130, 131, 132, 133, 134, 135, 136, 137, 138, 139, 140, 141, 142, 143] (by decide +kernel) (by decide +kernel)
set_option maxRecDepth 20000 in
theorem gX10_missing_X10_mayBeMissing : GoodIn wsX10_missing (wsV RX10 236 RX10 yX10_mayBeMissing wsX10_mayBeMissing) := goodIn_app (goodIn_of _ (by decide +kernel)) ggX10_missing_X10_mayBeMissing
set_option maxRecDepth 20000 in
theorem ggX10_missing_X3_pair : GoodIn wsX10_missing wsX3_pair := goodIn_r _ [42] (by decide +kernel) (by decide +kernel)
set_option maxRecDepth 20000 in
theorem gX10_missing_X3_pair : GoodIn wsX10_missing (va_wsS RX10 239 yX3_pair wsX3_pair) := goodIn_app (goodIn_of _ (by decide +kernel)) ggX10_missing_X3_pair
theorem dX10_missing_0 : decode cX10_missing 0 = .ok (.iload_n 1, 1) := by decide +kernel
theorem dX10_missing_1 : decode cX10_missing 1 = .ok (.ifCond .eq 11, 3) := by decide +kernel
theorem dX10_missing_4 : decode cX10_missing 4 = .ok (.iload_n 1, 1) := by decide +kernel
theorem dX10_missing_5 : decode cX10_missing 5 = .ok (.iconst 1, 1) := by decide +kernel
theorem dX10_missing_6 : decode cX10_missing 6 = .ok (.if_icmp .eq 6, 3) := by decide +kernel
theorem dX10_missing_9 : decode cX10_missing 9 = .ok (.bipush (-2), 2) := by decide +kernel
theorem dX10_missing_11 : decode cX10_missing 11 = .ok (.ireturn, 1) := by decide +kernel
theorem dX10_missing_12 : decode cX10_missing 12 = .ok (.aload_n 0, 1) := by decide +kernel
theorem dX10_missing_13 : decode cX10_missing 13 = .ok (.getfield 19, 3) := by decide +kernel
theorem dX10_missing_16 : decode cX10_missing 16 = .ok (.invokevirtual 109, 3) := by decide +kernel
theorem dX10_missing_19 : decode cX10_missing 19 = .ok (.ifCond .eq 6, 3) := by decide +kernel
theorem dX10_missing_22 : decode cX10_missing 22 = .ok (.bipush (-4), 2) := by decide +kernel
theorem dX10_missing_24 : decode cX10_missing 24 = .ok (.ireturn, 1) := by decide +kernel
theorem dX10_missing_25 : decode cX10_missing 25 = .ok (.iconst 0, 1) := by decide +kernel
theorem dX10_missing_26 : decode cX10_missing 26 = .ok (.istore_n 2, 1) := by decide +kernel
theorem dX10_missing_27 : decode cX10_missing 27 = .ok (.bipush (-9), 2) := by decide +kernel
theorem dX10_missing_29 : decode cX10_missing 29 = .ok (.istore_n 3, 1) := by decide +kernel
theorem dX10_missing_30 : decode cX10_missing 30 = .ok (.iconst 0, 1) := by decide +kernel
theorem dX10_missing_31 : decode cX10_missing 31 = .ok (.istore 4, 2) := by decide +kernel
theorem dX10_missing_33 : decode cX10_missing 33 = .ok (.iload 4, 2) := by decide +kernel
theorem dX10_missing_35 : decode cX10_missing 35 = .ok (.aload_n 0, 1) := by decide +kernel
theorem dX10_missing_36 : decode cX10_missing 36 = .ok (.getfield 19, 3) := by decide +kernel
theorem dX10_missing_39 : decode cX10_missing 39 = .ok (.getfield 233, 3) := by decide +kernel
theorem dX10_missing_42 : decode cX10_missing 42 = .ok (.if_icmp .ge 60, 3) := by decide +kernel
theorem dX10_missing_45 : decode cX10_missing 45 = .ok (.iconst 0, 1) := by decide +kernel
theorem dX10_missing_46 : decode cX10_missing 46 = .ok (.istore 5, 2) := by decide +kernel
theorem dX10_missing_48 : decode cX10_missing 48 = .ok (.iload 5, 2) := by decide +kernel
theorem dX10_missing_50 : decode cX10_missing 50 = .ok (.aload_n 0, 1) := by decide +kernel
theorem dX10_missing_51 : decode cX10_missing 51 = .ok (.getfield 19, 3) := by decide +kernel
theorem dX10_missing_54 : decode cX10_missing 54 = .ok (.getfield 233, 3) := by decide +kernel
theorem dX10_missing_57 : decode cX10_missing 57 = .ok (.if_icmp .ge 39, 3) := by decide +kernel
theorem dX10_missing_60 : decode cX10_missing 60 = .ok (.aload_n 0, 1) := by decide +kernel
theorem dX10_missing_61 : decode cX10_missing 61 = .ok (.iload 4, 2) := by decide +kernel
theorem dX10_missing_63 : decode cX10_missing 63 = .ok (.iload 5, 2) := by decide +kernel
theorem dX10_missing_65 : decode cX10_missing 65 = .ok (.invokevirtual 236, 3) := by decide +kernel
theorem dX10_missing_68 : decode cX10_missing 68 = .ok (.ifCond .eq 22, 3) := by decide +kernel
theorem dX10_missing_71 : decode cX10_missing 71 = .ok (.iload_n 2, 1) := by decide +kernel
theorem dX10_missing_72 : decode cX10_missing 72 = .ok (.ifCond .ne 13, 3) := by decide +kernel
theorem dX10_missing_75 : decode cX10_missing 75 = .ok (.iload 4, 2) := by decide +kernel
theorem dX10_missing_77 : decode cX10_missing 77 = .ok (.iload 5, 2) := by decide +kernel
theorem dX10_missing_79 : decode cX10_missing 79 = .ok (.invokestatic 239, 3) := by decide +kernel
theorem dX10_missing_82 : decode cX10_missing 82 = .ok (.goto 4, 3) := by decide +kernel
theorem dX10_missing_85 : decode cX10_missing 85 = .ok (.iload_n 3, 1) := by decide +kernel
theorem dX10_missing_86 : decode cX10_missing 86 = .ok (.istore_n 3, 1) := by decide +kernel
theorem dX10_missing_87 : decode cX10_missing 87 = .ok (.iinc 2 1, 3) := by decide +kernel
theorem dX10_missing_90 : decode cX10_missing 90 = .ok (.iinc 5 1, 3) := by decide +kernel
theorem dX10_missing_93 : decode cX10_missing 93 = .ok (.goto (-45), 3) := by decide +kernel
theorem dX10_missing_96 : decode cX10_missing 96 = .ok (.iinc 4 1, 3) := by decide +kernel
theorem dX10_missing_99 : decode cX10_missing 99 = .ok (.goto (-66), 3) := by decide +kernel
theorem dX10_missing_102 : decode cX10_missing 102 = .ok (.iload_n 1, 1) := by decide +kernel
theorem dX10_missing_103 : decode cX10_missing 103 = .ok (.ifCond .ne 7, 3) := by decide +kernel
theorem dX10_missing_106 : decode cX10_missing 106 = .ok (.iload_n 2, 1) := by decide +kernel
theorem dX10_missing_107 : decode cX10_missing 107 = .ok (.goto 4, 3) := by decide +kernel
theorem dX10_missing_110 : decode cX10_missing 110 = .ok (.iload_n 3, 1) := by decide +kernel
theorem dX10_missing_111 : decode cX10_missing 111 = .ok (.ireturn, 1) := by decide +kernel
set_option maxRecDepth 20000 in
theorem ggX10_share_X3_areKnots : GoodIn wsX10_share wsX3_areKnots := goodIn_r _ [6, 7, 8, 9, 5, 10, 11, 105, 106, 107] (by decide +kernel) (by decide +kernel)
set_option maxRecDepth 20000 in
theorem gX10_share_X3_areKnots : GoodIn wsX10_share (wsV RX10 102 RX3 yX3_areKnots wsX3_areKnots) := goodIn_app (goodIn_of _ (by decide +kernel)) ggX10_share_X3_areKnots
set_option maxRecDepth 20000 in
theorem ggX10_share_X3_has : GoodIn wsX10_share wsX3_has := goodIn_r _ [15, 16, 17, 18, 5, 19, 20, 21, 22, 23, 24, 25, 26, 27, 28, 29, 30, 31, 32, 33, 34, 35, 36, 37, 105, 106, 107, 108, 109] (by decide +kernel) (by decide +kernel)
set_option maxRecDepth 20000 in
theorem gX10_share_X3_has : GoodIn wsX10_share (wsV RX10 106 RX3 yX3_has wsX3_has) := goodIn_app (goodIn_of _ (by decide +kernel)) ggX10_share_X3_has
set_option maxRecDepth 20000 in
theorem ggX10_share_X3_grid : GoodIn wsX10_share wsX3_grid := goodIn_r _ [41, 20, 21, 22, 23, 24, 25, 26, 27, 28, 29, 30, 31, 32, 33, 5, 34, 42, 43, 44, 45, 105, 106, 107, 108, 109] (by decide +kernel) (by decide +kernel)
set_option maxRecDepth 20000 in
theorem gX10_share_X3_grid : GoodIn wsX10_share (wsV RX10 178 RX3 yX3_grid wsX3_grid) := goodIn_app (goodIn_of _ (by decide +kernel)) ggX10_share_X3_grid
set_option maxRecDepth 20000 in
theorem ggX10_share_X1_gainInAllOrders : GoodIn wsX10_share wsX1_gainInAllOrders := goodIn_r _ [49, 50, 51, 44, 52, 53, 54, 55, 56, 57, 48, 58, 59, 60, 61, 62, 63, 64, 65, 66, 67, 68, 69, 70, 71, 72, 73, 74, 75, 76, 77, 78, 79, 80, 81, 82] (by decide +kernel) (by decide +kernel)
set_option maxRecDepth 20000 in
theorem gX10_share_X1_gainInAllOrders : GoodIn wsX10_share (va_wsS RX10 242 yX1_gainInAllOrders wsX1_gainInAllOrders) := goodIn_app (goodIn_of _ (by decide +kernel)) ggX10_share_X1_gainInAllOrders
set_option maxRecDepth 20000 in
theorem ggX10_share_X5_line : GoodIn wsX10_share wsX5_line := goodIn_r _ [52] (by decide +kernel) (by decide +kernel)
set_option maxRecDepth 20000 in
theorem gX10_share_X5_line : GoodIn wsX10_share (va_wsS RX10 247 yX5_line wsX5_line) := goodIn_app (goodIn_of _ (by decide +kernel)) ggX10_share_X5_line
set_option maxRecDepth 20000 in
theorem ggX10_share_J6_bitCount_0f7a4 : GoodIn wsX10_share wsJ6_bitCount_0f7a4 := goodIn_r _ [74, 75, 76, 77] (by decide +kernel) (by decide +kernel)
set_option maxRecDepth 20000 in
theorem gX10_share_J6_bitCount_0f7a4 : GoodIn wsX10_share (va_wsS RX10 251 yJ6_bitCount_0f7a4 wsJ6_bitCount_0f7a4) := goodIn_app (goodIn_of _ (by decide +kernel)) ggX10_share_J6_bitCount_0f7a4
set_option maxRecDepth 20000 in
theorem ggX10_share_X1_factorial : GoodIn wsX10_share wsX1_factorial := goodIn_r _ [82] (by decide +kernel) (by decide +kernel)
set_option maxRecDepth 20000 in
theorem gX10_share_X1_factorial : GoodIn wsX10_share (va_wsS RX10 256 yX1_factorial wsX1_factorial) := goodIn_app (goodIn_of _ (by decide +kernel)) ggX10_share_X1_factorial
set_option maxRecDepth 20000 in
theorem ggX10_share_X1_inLeastTerms : GoodIn wsX10_share wsX1_inLeastTerms := goodIn_r _ [88, 89, 90, 48, 91] (by decide +kernel) (by decide +kernel)
set_option maxRecDepth 20000 in
theorem gX10_share_X1_inLeastTerms : GoodIn wsX10_share (va_wsS RX10 259 yX1_inLeastTerms wsX1_inLeastTerms) := goodIn_app (goodIn_of _ (by decide +kernel)) ggX10_share_X1_inLeastTerms
theorem dX10_share_0 : decode cX10_share 0 = .ok (.aload_n 0, 1) := by decide +kernel
theorem dX10_share_1 : decode cX10_share 1 = .ok (.getfield 19, 3) := by decide +kernel
theorem dX10_share_4 : decode cX10_share 4 = .ok (.iload_n 1, 1) := by decide +kernel
theorem dX10_share_5 : decode cX10_share 5 = .ok (.iload_n 2, 1) := by decide +kernel
theorem dX10_share_6 : decode cX10_share 6 = .ok (.invokevirtual 102, 3) := by decide +kernel
theorem dX10_share_9 : decode cX10_share 9 = .ok (.ifCond .ne 5, 3) := by decide +kernel
theorem dX10_share_12 : decode cX10_share 12 = .ok (.iconst (-1), 1) := by decide +kernel
theorem dX10_share_13 : decode cX10_share 13 = .ok (.ireturn, 1) := by decide +kernel
theorem dX10_share_14 : decode cX10_share 14 = .ok (.aload_n 0, 1) := by decide +kernel
theorem dX10_share_15 : decode cX10_share 15 = .ok (.getfield 19, 3) := by decide +kernel
theorem dX10_share_18 : decode cX10_share 18 = .ok (.iload_n 1, 1) := by decide +kernel
theorem dX10_share_19 : decode cX10_share 19 = .ok (.iload_n 2, 1) := by decide +kernel
theorem dX10_share_20 : decode cX10_share 20 = .ok (.invokevirtual 106, 3) := by decide +kernel
theorem dX10_share_23 : decode cX10_share 23 = .ok (.ifCond .ne 6, 3) := by decide +kernel
theorem dX10_share_26 : decode cX10_share 26 = .ok (.bipush (-3), 2) := by decide +kernel
theorem dX10_share_28 : decode cX10_share 28 = .ok (.ireturn, 1) := by decide +kernel
theorem dX10_share_29 : decode cX10_share 29 = .ok (.aload_n 0, 1) := by decide +kernel
theorem dX10_share_30 : decode cX10_share 30 = .ok (.getfield 19, 3) := by decide +kernel
theorem dX10_share_33 : decode cX10_share 33 = .ok (.invokevirtual 178, 3) := by decide +kernel
theorem dX10_share_36 : decode cX10_share 36 = .ok (.lstore 4, 2) := by decide +kernel
theorem dX10_share_38 : decode cX10_share 38 = .ok (.lload 4, 2) := by decide +kernel
theorem dX10_share_40 : decode cX10_share 40 = .ok (.iload_n 1, 1) := by decide +kernel
theorem dX10_share_41 : decode cX10_share 41 = .ok (.iload_n 2, 1) := by decide +kernel
theorem dX10_share_42 : decode cX10_share 42 = .ok (.invokestatic 242, 3) := by decide +kernel
theorem dX10_share_45 : decode cX10_share 45 = .ok (.istore 6, 2) := by decide +kernel
theorem dX10_share_47 : decode cX10_share 47 = .ok (.lload 4, 2) := by decide +kernel
theorem dX10_share_49 : decode cX10_share 49 = .ok (.iload_n 1, 1) := by decide +kernel
theorem dX10_share_50 : decode cX10_share 50 = .ok (.invokestatic 247, 3) := by decide +kernel
theorem dX10_share_53 : decode cX10_share 53 = .ok (.invokestatic 251, 3) := by decide +kernel
theorem dX10_share_56 : decode cX10_share 56 = .ok (.invokestatic 256, 3) := by decide +kernel
theorem dX10_share_59 : decode cX10_share 59 = .ok (.istore 7, 2) := by decide +kernel
theorem dX10_share_61 : decode cX10_share 61 = .ok (.iload 6, 2) := by decide +kernel
theorem dX10_share_63 : decode cX10_share 63 = .ok (.iload 7, 2) := by decide +kernel
theorem dX10_share_65 : decode cX10_share 65 = .ok (.iload_n 3, 1) := by decide +kernel
theorem dX10_share_66 : decode cX10_share 66 = .ok (.invokestatic 259, 3) := by decide +kernel
theorem dX10_share_69 : decode cX10_share 69 = .ok (.ireturn, 1) := by decide +kernel
set_option maxRecDepth 20000 in
theorem ggX10_spared_X3_isKnot : GoodIn wsX10_spared wsX3_isKnot := goodIn_r _ [6, 7, 89, 90, 91] (by decide +kernel) (by decide +kernel)
set_option maxRecDepth 20000 in
theorem gX10_spared_X3_isKnot : GoodIn wsX10_spared (wsV RX10 141 RX3 yX3_isKnot wsX3_isKnot) := goodIn_app (goodIn_of _ (by decide +kernel)) ggX10_spared_X3_isKnot
set_option maxRecDepth 20000 in
theorem ggX10_spared_X3_grid : GoodIn wsX10_spared wsX3_grid := goodIn_r _ [11, 12, 13, 14, 15, 16, 17, 18, 19, 20, 21, 22, 23, 24, 25, 5, 26, 27, 28, 29, 30, 89, 90, 91, 92, 93] (by decide +kernel) (by decide +kernel)
set_option maxRecDepth 20000 in
theorem gX10_spared_X3_grid : GoodIn wsX10_spared (wsV RX10 178 RX3 yX3_grid wsX3_grid) := goodIn_app (goodIn_of _ (by decide +kernel)) ggX10_spared_X3_grid
set_option maxRecDepth 20000 in
theorem ggX10_spared_X1_weightOfReaching : GoodIn wsX10_spared wsX1_weightOfReaching := goodIn_r _ [34, 35, 36, 29, 37, 38, 39, 33, 40, 41, 42, 43, 44, 45, 46, 47, 48, 49, 50, 51, 52, 53, 54, 55, 56, 57, 58, 59, 60, 61, 62, 63, 64, 65, 66] (by decide +kernel) (by decide +kernel)
set_option maxRecDepth 20000 in
theorem gX10_spared_X1_weightOfReaching : GoodIn wsX10_spared (va_wsS RX10 263 yX1_weightOfReaching wsX1_weightOfReaching) := goodIn_app (goodIn_of _ (by decide +kernel)) ggX10_spared_X1_weightOfReaching
set_option maxRecDepth 20000 in
theorem ggX10_spared_X5_line : GoodIn wsX10_spared wsX5_line := goodIn_r _ [37] (by decide +kernel) (by decide +kernel)
set_option maxRecDepth 20000 in
theorem gX10_spared_X5_line : GoodIn wsX10_spared (va_wsS RX10 247 yX5_line wsX5_line) := goodIn_app (goodIn_of _ (by decide +kernel)) ggX10_spared_X5_line
set_option maxRecDepth 20000 in
theorem ggX10_spared_J6_bitCount_0f7a4 : GoodIn wsX10_spared wsJ6_bitCount_0f7a4 := goodIn_r _ [58, 59, 60, 61] (by decide +kernel) (by decide +kernel)
set_option maxRecDepth 20000 in
theorem gX10_spared_J6_bitCount_0f7a4 : GoodIn wsX10_spared (va_wsS RX10 251 yJ6_bitCount_0f7a4 wsJ6_bitCount_0f7a4) := goodIn_app (goodIn_of _ (by decide +kernel)) ggX10_spared_J6_bitCount_0f7a4
set_option maxRecDepth 20000 in
theorem ggX10_spared_X1_power : GoodIn wsX10_spared wsX1_power := goodIn_r _ [66] (by decide +kernel) (by decide +kernel)
set_option maxRecDepth 20000 in
theorem gX10_spared_X1_power : GoodIn wsX10_spared (va_wsS RX10 267 yX1_power wsX1_power) := goodIn_app (goodIn_of _ (by decide +kernel)) ggX10_spared_X1_power
set_option maxRecDepth 20000 in
theorem ggX10_spared_X1_inLeastTerms : GoodIn wsX10_spared wsX1_inLeastTerms := goodIn_r _ [72, 73, 74, 33, 75] (by decide +kernel) (by decide +kernel)
set_option maxRecDepth 20000 in
theorem gX10_spared_X1_inLeastTerms : GoodIn wsX10_spared (va_wsS RX10 259 yX1_inLeastTerms wsX1_inLeastTerms) := goodIn_app (goodIn_of _ (by decide +kernel)) ggX10_spared_X1_inLeastTerms
theorem dX10_spared_0 : decode cX10_spared 0 = .ok (.aload_n 0, 1) := by decide +kernel
theorem dX10_spared_1 : decode cX10_spared 1 = .ok (.getfield 19, 3) := by decide +kernel
theorem dX10_spared_4 : decode cX10_spared 4 = .ok (.iload_n 1, 1) := by decide +kernel
theorem dX10_spared_5 : decode cX10_spared 5 = .ok (.invokevirtual 141, 3) := by decide +kernel
theorem dX10_spared_8 : decode cX10_spared 8 = .ok (.ifCond .ne 5, 3) := by decide +kernel
theorem dX10_spared_11 : decode cX10_spared 11 = .ok (.iconst (-1), 1) := by decide +kernel
theorem dX10_spared_12 : decode cX10_spared 12 = .ok (.ireturn, 1) := by decide +kernel
theorem dX10_spared_13 : decode cX10_spared 13 = .ok (.iload_n 2, 1) := by decide +kernel
theorem dX10_spared_14 : decode cX10_spared 14 = .ok (.ifCond .lt 19, 3) := by decide +kernel
theorem dX10_spared_17 : decode cX10_spared 17 = .ok (.iload_n 2, 1) := by decide +kernel
theorem dX10_spared_18 : decode cX10_spared 18 = .ok (.bipush 8, 2) := by decide +kernel
theorem dX10_spared_20 : decode cX10_spared 20 = .ok (.if_icmp .gt 13, 3) := by decide +kernel
theorem dX10_spared_23 : decode cX10_spared 23 = .ok (.iload_n 3, 1) := by decide +kernel
theorem dX10_spared_24 : decode cX10_spared 24 = .ok (.ifCond .lt 9, 3) := by decide +kernel
theorem dX10_spared_27 : decode cX10_spared 27 = .ok (.iload_n 3, 1) := by decide +kernel
theorem dX10_spared_28 : decode cX10_spared 28 = .ok (.bipush 10, 2) := by decide +kernel
theorem dX10_spared_30 : decode cX10_spared 30 = .ok (.if_icmp .le 6, 3) := by decide +kernel
theorem dX10_spared_33 : decode cX10_spared 33 = .ok (.bipush (-2), 2) := by decide +kernel
theorem dX10_spared_35 : decode cX10_spared 35 = .ok (.ireturn, 1) := by decide +kernel
theorem dX10_spared_36 : decode cX10_spared 36 = .ok (.aload_n 0, 1) := by decide +kernel
theorem dX10_spared_37 : decode cX10_spared 37 = .ok (.getfield 19, 3) := by decide +kernel
theorem dX10_spared_40 : decode cX10_spared 40 = .ok (.invokevirtual 178, 3) := by decide +kernel
theorem dX10_spared_43 : decode cX10_spared 43 = .ok (.lstore 5, 2) := by decide +kernel
theorem dX10_spared_45 : decode cX10_spared 45 = .ok (.lload 5, 2) := by decide +kernel
theorem dX10_spared_47 : decode cX10_spared 47 = .ok (.iload_n 1, 1) := by decide +kernel
theorem dX10_spared_48 : decode cX10_spared 48 = .ok (.iload_n 2, 1) := by decide +kernel
theorem dX10_spared_49 : decode cX10_spared 49 = .ok (.iload_n 3, 1) := by decide +kernel
theorem dX10_spared_50 : decode cX10_spared 50 = .ok (.invokestatic 263, 3) := by decide +kernel
theorem dX10_spared_53 : decode cX10_spared 53 = .ok (.istore 7, 2) := by decide +kernel
theorem dX10_spared_55 : decode cX10_spared 55 = .ok (.bipush 10, 2) := by decide +kernel
theorem dX10_spared_57 : decode cX10_spared 57 = .ok (.lload 5, 2) := by decide +kernel
theorem dX10_spared_59 : decode cX10_spared 59 = .ok (.iload_n 1, 1) := by decide +kernel
theorem dX10_spared_60 : decode cX10_spared 60 = .ok (.invokestatic 247, 3) := by decide +kernel
theorem dX10_spared_63 : decode cX10_spared 63 = .ok (.invokestatic 251, 3) := by decide +kernel
theorem dX10_spared_66 : decode cX10_spared 66 = .ok (.invokestatic 267, 3) := by decide +kernel
theorem dX10_spared_69 : decode cX10_spared 69 = .ok (.istore 8, 2) := by decide +kernel
theorem dX10_spared_71 : decode cX10_spared 71 = .ok (.iload 7, 2) := by decide +kernel
theorem dX10_spared_73 : decode cX10_spared 73 = .ok (.iload 8, 2) := by decide +kernel
theorem dX10_spared_75 : decode cX10_spared 75 = .ok (.iload 4, 2) := by decide +kernel
theorem dX10_spared_77 : decode cX10_spared 77 = .ok (.invokestatic 259, 3) := by decide +kernel
theorem dX10_spared_80 : decode cX10_spared 80 = .ok (.ireturn, 1) := by decide +kernel
theorem dX10_seed_0 : decode cX10_seed 0 = .ok (.aload_n 0, 1) := by decide +kernel
theorem dX10_seed_1 : decode cX10_seed 1 = .ok (.getfield 270, 3) := by decide +kernel
theorem dX10_seed_4 : decode cX10_seed 4 = .ok (.lstore_n 3, 1) := by decide +kernel
theorem dX10_seed_5 : decode cX10_seed 5 = .ok (.aload_n 0, 1) := by decide +kernel
theorem dX10_seed_6 : decode cX10_seed 6 = .ok (.lload_n 1, 1) := by decide +kernel
theorem dX10_seed_7 : decode cX10_seed 7 = .ok (.putfield 270, 3) := by decide +kernel
theorem dX10_seed_10 : decode cX10_seed 10 = .ok (.lload_n 3, 1) := by decide +kernel
theorem dX10_seed_11 : decode cX10_seed 11 = .ok (.lreturn, 1) := by decide +kernel
set_option maxRecDepth 20000 in
theorem ggX10_drawn_X3_copy : GoodIn wsX10_drawn wsX3_copy := goodIn_r _ [11, 12, 13, 14, 15, 16, 17, 18, 19, 20, 21, 22, 23, 24, 25, 26, 27, 28, 29, 30, 31, 32, 33, 34, 35, 36, 37, 38, 39, 40, 41, 179, 180, 181, 182, 183] (by decide +kernel) (by decide +kernel)
set_option maxRecDepth 20000 in
theorem gX10_drawn_X3_copy : GoodIn wsX10_drawn (wsV RX10 224 RX3 yX3_copy wsX3_copy) := goodIn_app (goodIn_of _ (by decide +kernel)) ggX10_drawn_X3_copy
set_option maxRecDepth 20000 in
theorem ggX10_drawn_X3_turnDrawn : GoodIn wsX10_drawn wsX3_turnDrawn := goodIn_r _ [45, 12, 46, 47, 48, 10, 49, 50, 51, 52, 53, 54, 55, 56, 57, 13, 58, 59, 60, 18, 61, 20, 62, 26, 27, 28, 29, 63, 64, 65, 66, 67, 68, 69, 70, 71, 72, 73, 74, 75, 76, 77, 78, 79, 80, 81, 82, 83, 84, 85, 39, 40, 41, 86, 87, 88, 89, 14, 90, 31, 32, 33, 34, 35, 36, 37, 38, 179, 180, 181, 182, 183] (by decide +kernel) (by decide +kernel)
set_option maxRecDepth 20000 in
theorem gX10_drawn_X3_turnDrawn : GoodIn wsX10_drawn (wsV RX10 278 RX3 yX3_turnDrawn wsX3_turnDrawn) := goodIn_app (goodIn_of _ (by decide +kernel)) ggX10_drawn_X3_turnDrawn
set_option maxRecDepth 20000 in
theorem ggX10_drawn_X3_grid : GoodIn wsX10_drawn wsX3_grid := goodIn_r _ [94, 13, 58, 59, 60, 18, 61, 20, 62, 26, 27, 28, 29, 63, 64, 10, 65, 95, 96, 97, 98, 179, 180, 181, 182, 183] (by decide +kernel) (by decide +kernel)
set_option maxRecDepth 20000 in
theorem gX10_drawn_X3_grid : GoodIn wsX10_drawn (wsV RX10 178 RX3 yX3_grid wsX3_grid) := goodIn_app (goodIn_of _ (by decide +kernel)) ggX10_drawn_X3_grid
set_option maxRecDepth 20000 in
theorem ggX10_drawn_X2_learn : GoodIn wsX10_drawn wsX2_learn := goodIn_r _ [103, 104, 105, 106, 107, 108, 109, 97, 110, 111, 112, 113, 114, 115, 116, 117, 118, 119, 120, 121, 122, 123, 124, 125, 126, 127, 128, 129, 102, 130, 131, 132, 133, 134, 135, 136, 137, 138, 139, 140, 141, 142, 143, 144, 145, 146, 147, 184, 185, 186, 187] (by decide +kernel) (by decide +kernel)
set_option maxRecDepth 20000 in
theorem gX10_drawn_X2_learn : GoodIn wsX10_drawn (wsV RX10 188 RX2 yX2_learn wsX2_learn) := goodIn_app (goodIn_of _ (by decide +kernel)) ggX10_drawn_X2_learn
set_option maxRecDepth 20000 in
theorem ggX10_drawn_X2_depthSum : GoodIn wsX10_drawn wsX2_depthSum := goodIn_r _ [151, 152, 153, 154, 155, 156, 157, 158, 102, 159, 127, 128, 129, 130, 105, 131, 132, 97, 133, 160, 161, 162, 163, 107, 164, 125, 126, 165, 118, 119, 120, 121, 122, 123, 184, 185, 186, 187] (by decide +kernel) (by decide +kernel)
set_option maxRecDepth 20000 in
theorem gX10_drawn_X2_depthSum : GoodIn wsX10_drawn (wsV RX10 281 RX2 yX2_depthSum wsX2_depthSum) := goodIn_app (goodIn_of _ (by decide +kernel)) ggX10_drawn_X2_depthSum
theorem dX10_drawn_0 : decode cX10_drawn 0 = .ok (.iload_n 1, 1) := by decide +kernel
theorem dX10_drawn_1 : decode cX10_drawn 1 = .ok (.iconst 1, 1) := by decide +kernel
theorem dX10_drawn_2 : decode cX10_drawn 2 = .ok (.if_icmp .lt 9, 3) := by decide +kernel
theorem dX10_drawn_5 : decode cX10_drawn 5 = .ok (.iload_n 1, 1) := by decide +kernel
theorem dX10_drawn_6 : decode cX10_drawn 6 = .ok (.bipush 20, 2) := by decide +kernel
theorem dX10_drawn_8 : decode cX10_drawn 8 = .ok (.if_icmp .le 6, 3) := by decide +kernel
theorem dX10_drawn_11 : decode cX10_drawn 11 = .ok (.bipush (-2), 2) := by decide +kernel
theorem dX10_drawn_13 : decode cX10_drawn 13 = .ok (.ireturn, 1) := by decide +kernel
theorem dX10_drawn_14 : decode cX10_drawn 14 = .ok (.aload_n 0, 1) := by decide +kernel
theorem dX10_drawn_15 : decode cX10_drawn 15 = .ok (.getfield 23, 3) := by decide +kernel
theorem dX10_drawn_18 : decode cX10_drawn 18 = .ok (.aload_n 0, 1) := by decide +kernel
theorem dX10_drawn_19 : decode cX10_drawn 19 = .ok (.getfield 19, 3) := by decide +kernel
theorem dX10_drawn_22 : decode cX10_drawn 22 = .ok (.invokevirtual 224, 3) := by decide +kernel
theorem dX10_drawn_25 : decode cX10_drawn 25 = .ok (.iconst 0, 1) := by decide +kernel
theorem dX10_drawn_26 : decode cX10_drawn 26 = .ok (.istore_n 2, 1) := by decide +kernel
theorem dX10_drawn_27 : decode cX10_drawn 27 = .ok (.iconst 0, 1) := by decide +kernel
theorem dX10_drawn_28 : decode cX10_drawn 28 = .ok (.istore_n 3, 1) := by decide +kernel
theorem dX10_drawn_29 : decode cX10_drawn 29 = .ok (.iload_n 3, 1) := by decide +kernel
theorem dX10_drawn_30 : decode cX10_drawn 30 = .ok (.iload_n 1, 1) := by decide +kernel
theorem dX10_drawn_31 : decode cX10_drawn 31 = .ok (.if_icmp .ge 64, 3) := by decide +kernel
theorem dX10_drawn_34 : decode cX10_drawn 34 = .ok (.aload_n 0, 1) := by decide +kernel
theorem dX10_drawn_35 : decode cX10_drawn 35 = .ok (.aload_n 0, 1) := by decide +kernel
theorem dX10_drawn_36 : decode cX10_drawn 36 = .ok (.getfield 270, 3) := by decide +kernel
theorem dX10_drawn_39 : decode cX10_drawn 39 = .ok (.ldc2_w 274, 3) := by decide +kernel
theorem dX10_drawn_42 : decode cX10_drawn 42 = .ok (.lmul, 1) := by decide +kernel
theorem dX10_drawn_43 : decode cX10_drawn 43 = .ok (.ldc2_w 276, 3) := by decide +kernel
theorem dX10_drawn_46 : decode cX10_drawn 46 = .ok (.ladd, 1) := by decide +kernel
theorem dX10_drawn_47 : decode cX10_drawn 47 = .ok (.putfield 270, 3) := by decide +kernel
theorem dX10_drawn_50 : decode cX10_drawn 50 = .ok (.aload_n 0, 1) := by decide +kernel
theorem dX10_drawn_51 : decode cX10_drawn 51 = .ok (.getfield 23, 3) := by decide +kernel
theorem dX10_drawn_54 : decode cX10_drawn 54 = .ok (.aload_n 0, 1) := by decide +kernel
theorem dX10_drawn_55 : decode cX10_drawn 55 = .ok (.getfield 270, 3) := by decide +kernel
theorem dX10_drawn_58 : decode cX10_drawn 58 = .ok (.bipush 33, 2) := by decide +kernel
theorem dX10_drawn_60 : decode cX10_drawn 60 = .ok (.lushr, 1) := by decide +kernel
theorem dX10_drawn_61 : decode cX10_drawn 61 = .ok (.l2i, 1) := by decide +kernel
theorem dX10_drawn_62 : decode cX10_drawn 62 = .ok (.invokevirtual 278, 3) := by decide +kernel
theorem dX10_drawn_65 : decode cX10_drawn 65 = .ok (.aload_n 0, 1) := by decide +kernel
theorem dX10_drawn_66 : decode cX10_drawn 66 = .ok (.getfield 53, 3) := by decide +kernel
theorem dX10_drawn_69 : decode cX10_drawn 69 = .ok (.aload_n 0, 1) := by decide +kernel
theorem dX10_drawn_70 : decode cX10_drawn 70 = .ok (.getfield 23, 3) := by decide +kernel
theorem dX10_drawn_73 : decode cX10_drawn 73 = .ok (.invokevirtual 178, 3) := by decide +kernel
theorem dX10_drawn_76 : decode cX10_drawn 76 = .ok (.invokevirtual 188, 3) := by decide +kernel
theorem dX10_drawn_79 : decode cX10_drawn 79 = .ok (.iload_n 2, 1) := by decide +kernel
theorem dX10_drawn_80 : decode cX10_drawn 80 = .ok (.aload_n 0, 1) := by decide +kernel
theorem dX10_drawn_81 : decode cX10_drawn 81 = .ok (.getfield 53, 3) := by decide +kernel
theorem dX10_drawn_84 : decode cX10_drawn 84 = .ok (.invokevirtual 281, 3) := by decide +kernel
theorem dX10_drawn_87 : decode cX10_drawn 87 = .ok (.iadd, 1) := by decide +kernel
theorem dX10_drawn_88 : decode cX10_drawn 88 = .ok (.istore_n 2, 1) := by decide +kernel
theorem dX10_drawn_89 : decode cX10_drawn 89 = .ok (.iinc 3 1, 3) := by decide +kernel
theorem dX10_drawn_92 : decode cX10_drawn 92 = .ok (.goto (-63), 3) := by decide +kernel
theorem dX10_drawn_95 : decode cX10_drawn 95 = .ok (.iload_n 2, 1) := by decide +kernel
theorem dX10_drawn_96 : decode cX10_drawn 96 = .ok (.ireturn, 1) := by decide +kernel
set_option maxRecDepth 20000 in
theorem ggX10_keep_X10_slotAt : GoodIn wsX10_keep wsX10_slotAt := goodIn_r _ [7, 8, 56, 57, 58, 59, 60, 61, 62, 63, 64, 65, 66, 67, 68] (by decide +kernel) (by decide +kernel)
set_option maxRecDepth 20000 in
theorem gX10_keep_X10_slotAt : GoodIn wsX10_keep (wsV RX10 284 RX10 yX10_slotAt wsX10_slotAt) := goodIn_app (goodIn_of _ (by decide +kernel)) ggX10_keep_X10_slotAt
set_option maxRecDepth 20000 in
theorem ggX10_keep_X3_copy : GoodIn wsX10_keep wsX3_copy := goodIn_r _ [13, 14, 15, 16, 17, 18, 19, 20, 21, 22, 23, 24, 25, 26, 27, 28, 29, 30, 31, 32, 33, 34, 35, 36, 37, 38, 39, 40, 41, 42, 43, 69, 70, 71, 72, 73] (by decide +kernel) (by decide +kernel)
set_option maxRecDepth 20000 in
theorem gX10_keep_X3_copy : GoodIn wsX10_keep (wsV RX10 224 RX3 yX3_copy wsX3_copy) := goodIn_app (goodIn_of _ (by decide +kernel)) ggX10_keep_X3_copy
set_option maxRecDepth 20000 in
theorem ggX10_keep_X5_only : GoodIn wsX10_keep wsX5_only := goodIn_r _ [47] (by decide +kernel) (by decide +kernel)
set_option maxRecDepth 20000 in
theorem gX10_keep_X5_only : GoodIn wsX10_keep (va_wsS RX10 288 yX5_only wsX5_only) := goodIn_app (goodIn_of _ (by decide +kernel)) ggX10_keep_X5_only
set_option maxRecDepth 20000 in
theorem ggX10_keep_X3_size : GoodIn wsX10_keep wsX3_size := goodIn_r _ [51, 15, 52, 53, 54, 20, 55, 22, 69, 70, 71, 72, 73] (by decide +kernel) (by decide +kernel)
set_option maxRecDepth 20000 in
theorem gX10_keep_X3_size : GoodIn wsX10_keep (wsV RX10 99 RX3 yX3_size wsX3_size) := goodIn_app (goodIn_of _ (by decide +kernel)) ggX10_keep_X3_size
theorem dX10_keep_0 : decode cX10_keep 0 = .ok (.aload_n 0, 1) := by decide +kernel
theorem dX10_keep_1 : decode cX10_keep 1 = .ok (.iload_n 1, 1) := by decide +kernel
theorem dX10_keep_2 : decode cX10_keep 2 = .ok (.invokevirtual 284, 3) := by decide +kernel
theorem dX10_keep_5 : decode cX10_keep 5 = .ok (.astore_n 2, 1) := by decide +kernel
theorem dX10_keep_6 : decode cX10_keep 6 = .ok (.aload_n 2, 1) := by decide +kernel
theorem dX10_keep_7 : decode cX10_keep 7 = .ok (.ifnonnull 5, 3) := by decide +kernel
theorem dX10_keep_10 : decode cX10_keep 10 = .ok (.iconst (-1), 1) := by decide +kernel
theorem dX10_keep_11 : decode cX10_keep 11 = .ok (.ireturn, 1) := by decide +kernel
theorem dX10_keep_12 : decode cX10_keep 12 = .ok (.aload_n 2, 1) := by decide +kernel
theorem dX10_keep_13 : decode cX10_keep 13 = .ok (.aload_n 0, 1) := by decide +kernel
theorem dX10_keep_14 : decode cX10_keep 14 = .ok (.getfield 19, 3) := by decide +kernel
theorem dX10_keep_17 : decode cX10_keep 17 = .ok (.invokevirtual 224, 3) := by decide +kernel
theorem dX10_keep_20 : decode cX10_keep 20 = .ok (.aload_n 0, 1) := by decide +kernel
theorem dX10_keep_21 : decode cX10_keep 21 = .ok (.dup, 1) := by decide +kernel
theorem dX10_keep_22 : decode cX10_keep 22 = .ok (.getfield 95, 3) := by decide +kernel
theorem dX10_keep_25 : decode cX10_keep 25 = .ok (.iload_n 1, 1) := by decide +kernel
theorem dX10_keep_26 : decode cX10_keep 26 = .ok (.invokestatic 288, 3) := by decide +kernel
theorem dX10_keep_29 : decode cX10_keep 29 = .ok (.ior, 1) := by decide +kernel
theorem dX10_keep_30 : decode cX10_keep 30 = .ok (.putfield 95, 3) := by decide +kernel
theorem dX10_keep_33 : decode cX10_keep 33 = .ok (.aload_n 2, 1) := by decide +kernel
theorem dX10_keep_34 : decode cX10_keep 34 = .ok (.invokevirtual 99, 3) := by decide +kernel
theorem dX10_keep_37 : decode cX10_keep 37 = .ok (.ireturn, 1) := by decide +kernel
set_option maxRecDepth 20000 in
theorem ggX10_again_X10_slotAt : GoodIn wsX10_again wsX10_slotAt := goodIn_r _ [8, 9, 65, 66, 67, 68, 69, 70, 71, 72, 73, 74, 75, 76, 77] (by decide +kernel) (by decide +kernel)
set_option maxRecDepth 20000 in
theorem gX10_again_X10_slotAt : GoodIn wsX10_again (wsV RX10 284 RX10 yX10_slotAt wsX10_slotAt) := goodIn_app (goodIn_of _ (by decide +kernel)) ggX10_again_X10_slotAt
set_option maxRecDepth 20000 in
theorem ggX10_again_X5_isIn : GoodIn wsX10_again wsX5_isIn := goodIn_r _ [13] (by decide +kernel) (by decide +kernel)
set_option maxRecDepth 20000 in
theorem gX10_again_X5_isIn : GoodIn wsX10_again (va_wsS RX10 291 yX5_isIn wsX5_isIn) := goodIn_app (goodIn_of _ (by decide +kernel)) ggX10_again_X5_isIn
set_option maxRecDepth 20000 in
theorem ggX10_again_X3_copy : GoodIn wsX10_again wsX3_copy := goodIn_r _ [18, 19, 20, 21, 22, 23, 24, 25, 26, 27, 28, 29, 30, 31, 32, 33, 34, 35, 36, 37, 38, 39, 40, 41, 42, 43, 44, 45, 46, 47, 48, 78, 79, 80, 81, 82] (by decide +kernel) (by decide +kernel)
set_option maxRecDepth 20000 in
theorem gX10_again_X3_copy : GoodIn wsX10_again (wsV RX10 224 RX3 yX3_copy wsX3_copy) := goodIn_app (goodIn_of _ (by decide +kernel)) ggX10_again_X3_copy
set_option maxRecDepth 20000 in
theorem ggX10_again_X0_clear : GoodIn wsX10_again wsX0_clear := goodIn_r _ [53, 54, 55, 56, 29, 30, 25, 31, 27, 83, 84, 81, 82] (by decide +kernel) (by decide +kernel)
set_option maxRecDepth 20000 in
theorem gX10_again_X0_clear : GoodIn wsX10_again (wsV RX10 94 RX0 yX0_clear wsX0_clear) := goodIn_app (goodIn_of _ (by decide +kernel)) ggX10_again_X0_clear
set_option maxRecDepth 20000 in
theorem ggX10_again_X3_size : GoodIn wsX10_again wsX3_size := goodIn_r _ [60, 20, 61, 62, 63, 25, 64, 27, 78, 79, 80, 81, 82] (by decide +kernel) (by decide +kernel)
set_option maxRecDepth 20000 in
theorem gX10_again_X3_size : GoodIn wsX10_again (wsV RX10 99 RX3 yX3_size wsX3_size) := goodIn_app (goodIn_of _ (by decide +kernel)) ggX10_again_X3_size
theorem dX10_again_0 : decode cX10_again 0 = .ok (.aload_n 0, 1) := by decide +kernel
theorem dX10_again_1 : decode cX10_again 1 = .ok (.iload_n 1, 1) := by decide +kernel
theorem dX10_again_2 : decode cX10_again 2 = .ok (.invokevirtual 284, 3) := by decide +kernel
theorem dX10_again_5 : decode cX10_again 5 = .ok (.astore_n 2, 1) := by decide +kernel
theorem dX10_again_6 : decode cX10_again 6 = .ok (.aload_n 2, 1) := by decide +kernel
theorem dX10_again_7 : decode cX10_again 7 = .ok (.ifnonnull 5, 3) := by decide +kernel
theorem dX10_again_10 : decode cX10_again 10 = .ok (.iconst (-1), 1) := by decide +kernel
theorem dX10_again_11 : decode cX10_again 11 = .ok (.ireturn, 1) := by decide +kernel
theorem dX10_again_12 : decode cX10_again 12 = .ok (.aload_n 0, 1) := by decide +kernel
theorem dX10_again_13 : decode cX10_again 13 = .ok (.getfield 95, 3) := by decide +kernel
theorem dX10_again_16 : decode cX10_again 16 = .ok (.iload_n 1, 1) := by decide +kernel
theorem dX10_again_17 : decode cX10_again 17 = .ok (.invokestatic 291, 3) := by decide +kernel
theorem dX10_again_20 : decode cX10_again 20 = .ok (.ifCond .ne 6, 3) := by decide +kernel
theorem dX10_again_23 : decode cX10_again 23 = .ok (.bipush (-3), 2) := by decide +kernel
theorem dX10_again_25 : decode cX10_again 25 = .ok (.ireturn, 1) := by decide +kernel
theorem dX10_again_26 : decode cX10_again 26 = .ok (.aload_n 0, 1) := by decide +kernel
theorem dX10_again_27 : decode cX10_again 27 = .ok (.getfield 19, 3) := by decide +kernel
theorem dX10_again_30 : decode cX10_again 30 = .ok (.aload_n 2, 1) := by decide +kernel
theorem dX10_again_31 : decode cX10_again 31 = .ok (.invokevirtual 224, 3) := by decide +kernel
theorem dX10_again_34 : decode cX10_again 34 = .ok (.aload_n 0, 1) := by decide +kernel
theorem dX10_again_35 : decode cX10_again 35 = .ok (.getfield 29, 3) := by decide +kernel
theorem dX10_again_38 : decode cX10_again 38 = .ok (.invokevirtual 94, 3) := by decide +kernel
theorem dX10_again_41 : decode cX10_again 41 = .ok (.aload_n 0, 1) := by decide +kernel
theorem dX10_again_42 : decode cX10_again 42 = .ok (.getfield 19, 3) := by decide +kernel
theorem dX10_again_45 : decode cX10_again 45 = .ok (.invokevirtual 99, 3) := by decide +kernel
theorem dX10_again_48 : decode cX10_again 48 = .ok (.ireturn, 1) := by decide +kernel
set_option maxRecDepth 20000 in
theorem ggX10_count_X8_length : GoodIn wsX10_count wsX8_length := goodIn_r _ [9, 10, 11, 12, 13, 14, 15, 16, 154, 155, 156] (by decide +kernel) (by decide +kernel)
set_option maxRecDepth 20000 in
theorem gX10_count_X8_length : GoodIn wsX10_count (wsV RX10 80 RX8 yX8_length wsX8_length) := goodIn_app (goodIn_of _ (by decide +kernel)) ggX10_count_X8_length
set_option maxRecDepth 20000 in
theorem ggX10_count_X3_size : GoodIn wsX10_count wsX3_size := goodIn_r _ [21, 22, 23, 12, 13, 14, 15, 16, 151, 152, 153, 155, 156] (by decide +kernel) (by decide +kernel)
set_option maxRecDepth 20000 in
theorem gX10_count_X3_size : GoodIn wsX10_count (wsV RX10 99 RX3 yX3_size wsX3_size) := goodIn_app (goodIn_of _ (by decide +kernel)) ggX10_count_X3_size
set_option maxRecDepth 20000 in
theorem ggX10_count_X0_size : GoodIn wsX10_count wsX0_size := goodIn_r _ [28, 29, 30, 12, 13, 14, 15, 16, 157, 158, 155, 156] (by decide +kernel) (by decide +kernel)
set_option maxRecDepth 20000 in
theorem gX10_count_X0_size : GoodIn wsX10_count (wsV RX10 131 RX0 yX0_size wsX0_size) := goodIn_app (goodIn_of _ (by decide +kernel)) ggX10_count_X0_size
set_option maxRecDepth 20000 in
theorem ggX10_count_X6_size : GoodIn wsX10_count wsX6_size := goodIn_r _ [15, 16, 155, 156] (by decide +kernel) (by decide +kernel)
set_option maxRecDepth 20000 in
theorem gX10_count_X6_size : GoodIn wsX10_count (wsV RX10 232 RX6 yX6_size wsX6_size) := goodIn_app (goodIn_of _ (by decide +kernel)) ggX10_count_X6_size
set_option maxRecDepth 20000 in
theorem ggX10_count_X10_countCovers : GoodIn wsX10_count wsX10_countCovers := goodIn_r _ [36, 37, 2, 38, 39, 40, 35, 41, 42, 43, 44, 20, 45, 22, 23, 12, 13, 14, 15, 16, 46, 47, 48, 49, 50, 51, 52, 53, 54, 55, 56, 57, 58, 59, 60, 61, 62, 63, 64, 65, 66, 67, 68, 69, 70, 71, 72, 73, 74, 75, 76, 77, 78, 79, 80, 81, 82, 83, 84, 85, 86, 87, 88, 89, 90, 91, 92, 93, 94, 95, 96, 97, 98, 99, 100, 101, 102, 103, 104, 105, 106, 107, 108, 109, 110, 111, 112, 113, 114, 115, 116, 117, 118, 119, 120, 121, 122, 123, 124, 125, 126, 127, 128, 129, 130, 131, 132, 133, 134, 135, 136, 137, 138, 139, 140, 141, 142, 143, 144, 145, 146, 147, 148, 149, 150, 159, 160, 161, 162, 151, 152, 153, 155, 156] (by decide +kernel) (by decide +kernel)
set_option maxRecDepth 20000 in
theorem gX10_count_X10_countCovers : GoodIn wsX10_count (wsV RX10 297 RX10 yX10_countCovers wsX10_countCovers) := goodIn_app (goodIn_of _ (by decide +kernel)) ggX10_count_X10_countCovers
theorem dX10_count_0 : decode cX10_count 0 = .ok (.iload_n 1, 1) := by decide +kernel
theorem dX10_count_1 : decode cX10_count 1 = .ok (.tableswitch 103 0 9 #[55, 63, 71, 103, 103, 103, 79, 103, 87, 95], 55) := by decide +kernel
theorem dX10_count_56 : decode cX10_count 56 = .ok (.aload_n 0, 1) := by decide +kernel
theorem dX10_count_57 : decode cX10_count 57 = .ok (.getfield 10, 3) := by decide +kernel
theorem dX10_count_60 : decode cX10_count 60 = .ok (.invokevirtual 80, 3) := by decide +kernel
theorem dX10_count_63 : decode cX10_count 63 = .ok (.ireturn, 1) := by decide +kernel
theorem dX10_count_64 : decode cX10_count 64 = .ok (.aload_n 0, 1) := by decide +kernel
theorem dX10_count_65 : decode cX10_count 65 = .ok (.getfield 19, 3) := by decide +kernel
theorem dX10_count_68 : decode cX10_count 68 = .ok (.getfield 233, 3) := by decide +kernel
theorem dX10_count_71 : decode cX10_count 71 = .ok (.ireturn, 1) := by decide +kernel
theorem dX10_count_72 : decode cX10_count 72 = .ok (.aload_n 0, 1) := by decide +kernel
theorem dX10_count_73 : decode cX10_count 73 = .ok (.getfield 19, 3) := by decide +kernel
theorem dX10_count_76 : decode cX10_count 76 = .ok (.invokevirtual 99, 3) := by decide +kernel
theorem dX10_count_79 : decode cX10_count 79 = .ok (.ireturn, 1) := by decide +kernel
theorem dX10_count_80 : decode cX10_count 80 = .ok (.aload_n 0, 1) := by decide +kernel
theorem dX10_count_81 : decode cX10_count 81 = .ok (.getfield 19, 3) := by decide +kernel
theorem dX10_count_84 : decode cX10_count 84 = .ok (.getfield 294, 3) := by decide +kernel
theorem dX10_count_87 : decode cX10_count 87 = .ok (.ireturn, 1) := by decide +kernel
theorem dX10_count_88 : decode cX10_count 88 = .ok (.aload_n 0, 1) := by decide +kernel
theorem dX10_count_89 : decode cX10_count 89 = .ok (.getfield 29, 3) := by decide +kernel
theorem dX10_count_92 : decode cX10_count 92 = .ok (.invokevirtual 131, 3) := by decide +kernel
theorem dX10_count_95 : decode cX10_count 95 = .ok (.ireturn, 1) := by decide +kernel
theorem dX10_count_96 : decode cX10_count 96 = .ok (.aload_n 0, 1) := by decide +kernel
theorem dX10_count_97 : decode cX10_count 97 = .ok (.getfield 42, 3) := by decide +kernel
theorem dX10_count_100 : decode cX10_count 100 = .ok (.invokevirtual 232, 3) := by decide +kernel
theorem dX10_count_103 : decode cX10_count 103 = .ok (.ireturn, 1) := by decide +kernel
theorem dX10_count_104 : decode cX10_count 104 = .ok (.aload_n 0, 1) := by decide +kernel
theorem dX10_count_105 : decode cX10_count 105 = .ok (.iload_n 1, 1) := by decide +kernel
theorem dX10_count_106 : decode cX10_count 106 = .ok (.invokevirtual 297, 3) := by decide +kernel
theorem dX10_count_109 : decode cX10_count 109 = .ok (.ireturn, 1) := by decide +kernel
set_option maxRecDepth 20000 in
theorem ggX10_learnCovers_X3_grid : GoodIn wsX10_learnCovers wsX3_grid := goodIn_r _ [7, 8, 9, 10, 11, 12, 13, 14, 15, 16, 17, 18, 19, 20, 21, 6, 22, 23, 24, 25, 26, 89, 90, 91, 92, 93] (by decide +kernel) (by decide +kernel)
set_option maxRecDepth 20000 in
theorem gX10_learnCovers_X3_grid : GoodIn wsX10_learnCovers (wsV RX10 178 RX3 yX3_grid wsX3_grid) := goodIn_app (goodIn_of _ (by decide +kernel)) ggX10_learnCovers_X3_grid
set_option maxRecDepth 20000 in
theorem ggX10_learnCovers_X2_learn : GoodIn wsX10_learnCovers wsX2_learn := goodIn_r _ [31, 32, 33, 34, 35, 36, 37, 25, 38, 39, 40, 41, 42, 43, 44, 45, 46, 47, 48, 49, 50, 51, 52, 53, 54, 55, 56, 57, 30, 58, 59, 60, 61, 62, 63, 64, 65, 66, 67, 68, 69, 70, 71, 72, 73, 74, 75, 94, 95, 96, 97] (by decide +kernel) (by decide +kernel)
set_option maxRecDepth 20000 in
theorem gX10_learnCovers_X2_learn : GoodIn wsX10_learnCovers (wsV RX10 188 RX2 yX2_learn wsX2_learn) := goodIn_app (goodIn_of _ (by decide +kernel)) ggX10_learnCovers_X2_learn
theorem dX10_learnCovers_0 : decode cX10_learnCovers 0 = .ok (.aload_n 0, 1) := by decide +kernel
theorem dX10_learnCovers_1 : decode cX10_learnCovers 1 = .ok (.getfield 49, 3) := by decide +kernel
theorem dX10_learnCovers_4 : decode cX10_learnCovers 4 = .ok (.aload_n 0, 1) := by decide +kernel
theorem dX10_learnCovers_5 : decode cX10_learnCovers 5 = .ok (.getfield 19, 3) := by decide +kernel
theorem dX10_learnCovers_8 : decode cX10_learnCovers 8 = .ok (.invokevirtual 178, 3) := by decide +kernel
theorem dX10_learnCovers_11 : decode cX10_learnCovers 11 = .ok (.invokevirtual 188, 3) := by decide +kernel
theorem dX10_learnCovers_14 : decode cX10_learnCovers 14 = .ok (.return_, 1) := by decide +kernel
set_option maxRecDepth 20000 in
theorem ggX10_countCovers_X10_learnCovers : GoodIn wsX10_countCovers wsX10_learnCovers := goodIn_r _ [7, 1, 2, 8, 9, 10, 11, 12, 13, 14, 15, 16, 17, 18, 19, 20, 21, 22, 23, 24, 25, 26, 27, 28, 29, 30, 31, 32, 33, 34, 35, 36, 37, 38, 39, 40, 41, 42, 43, 44, 45, 46, 47, 48, 49, 50, 51, 52, 53, 54, 55, 56, 57, 58, 59, 60, 61, 62, 63, 64, 65, 66, 67, 68, 69, 70, 71, 72, 73, 74, 75, 76, 77, 78, 79, 80, 112, 113, 114, 115, 116, 117, 118, 119, 120, 121, 122, 123, 124, 129, 130, 131, 132, 133, 125, 126, 127, 128] (by decide +kernel) (by decide +kernel)
set_option maxRecDepth 20000 in
theorem gX10_countCovers_X10_learnCovers : GoodIn wsX10_countCovers (wsV RX10 145 RX10 yX10_learnCovers wsX10_learnCovers) := goodIn_app (goodIn_of _ (by decide +kernel)) ggX10_countCovers_X10_learnCovers
set_option maxRecDepth 20000 in
theorem ggX10_countCovers_X2_reachedCount : GoodIn wsX10_countCovers wsX2_reachedCount := goodIn_r _ [84, 38, 85, 51, 52, 53, 54, 55, 56, 125, 126, 127, 128] (by decide +kernel) (by decide +kernel)
set_option maxRecDepth 20000 in
theorem gX10_countCovers_X2_reachedCount : GoodIn wsX10_countCovers (wsV RX10 196 RX2 yX2_reachedCount wsX2_reachedCount) := goodIn_app (goodIn_of _ (by decide +kernel)) ggX10_countCovers_X2_reachedCount
set_option maxRecDepth 20000 in
theorem ggX10_countCovers_X2_depthSum : GoodIn wsX10_countCovers wsX2_depthSum := goodIn_r _ [89, 90, 91, 92, 93, 94, 95, 96, 35, 97, 60, 61, 62, 63, 38, 64, 65, 30, 66, 98, 99, 100, 101, 40, 102, 58, 59, 85, 51, 52, 53, 54, 55, 56, 125, 126, 127, 128] (by decide +kernel) (by decide +kernel)
set_option maxRecDepth 20000 in
theorem gX10_countCovers_X2_depthSum : GoodIn wsX10_countCovers (wsV RX10 281 RX2 yX2_depthSum wsX2_depthSum) := goodIn_app (goodIn_of _ (by decide +kernel)) ggX10_countCovers_X2_depthSum
set_option maxRecDepth 20000 in
theorem ggX10_countCovers_X2_greatestDepth : GoodIn wsX10_countCovers wsX2_greatestDepth := goodIn_r _ [106, 90, 91, 92, 93, 94, 95, 96, 35, 97, 60, 61, 62, 63, 38, 64, 65, 30, 66, 98, 99, 100, 101, 40, 102, 58, 59, 85, 51, 52, 53, 54, 55, 56, 125, 126, 127, 128] (by decide +kernel) (by decide +kernel)
set_option maxRecDepth 20000 in
theorem gX10_countCovers_X2_greatestDepth : GoodIn wsX10_countCovers (wsV RX10 300 RX2 yX2_greatestDepth wsX2_greatestDepth) := goodIn_app (goodIn_of _ (by decide +kernel)) ggX10_countCovers_X2_greatestDepth
set_option maxRecDepth 20000 in
theorem ggX10_countCovers_X3_countBetween : GoodIn wsX10_countCovers wsX3_countBetween := goodIn_r _ [110, 13, 14, 15, 16, 17, 18, 19, 20, 21, 22, 23, 24, 25, 26, 11, 27, 111, 65, 30, 66, 129, 130, 131, 132, 133] (by decide +kernel) (by decide +kernel)
set_option maxRecDepth 20000 in
theorem gX10_countCovers_X3_countBetween : GoodIn wsX10_countCovers (wsV RX10 306 RX3 yX3_countBetween wsX3_countBetween) := goodIn_app (goodIn_of _ (by decide +kernel)) ggX10_countCovers_X3_countBetween
theorem dX10_countCovers_0 : decode cX10_countCovers 0 = .ok (.aload_n 0, 1) := by decide +kernel
theorem dX10_countCovers_1 : decode cX10_countCovers 1 = .ok (.invokevirtual 145, 3) := by decide +kernel
theorem dX10_countCovers_4 : decode cX10_countCovers 4 = .ok (.iload_n 1, 1) := by decide +kernel
theorem dX10_countCovers_5 : decode cX10_countCovers 5 = .ok (.tableswitch 74 3 7 #[35, 43, 51, 74, 59], 35) := by decide +kernel
theorem dX10_countCovers_40 : decode cX10_countCovers 40 = .ok (.aload_n 0, 1) := by decide +kernel
theorem dX10_countCovers_41 : decode cX10_countCovers 41 = .ok (.getfield 49, 3) := by decide +kernel
theorem dX10_countCovers_44 : decode cX10_countCovers 44 = .ok (.invokevirtual 196, 3) := by decide +kernel
theorem dX10_countCovers_47 : decode cX10_countCovers 47 = .ok (.ireturn, 1) := by decide +kernel
theorem dX10_countCovers_48 : decode cX10_countCovers 48 = .ok (.aload_n 0, 1) := by decide +kernel
theorem dX10_countCovers_49 : decode cX10_countCovers 49 = .ok (.getfield 49, 3) := by decide +kernel
theorem dX10_countCovers_52 : decode cX10_countCovers 52 = .ok (.invokevirtual 281, 3) := by decide +kernel
theorem dX10_countCovers_55 : decode cX10_countCovers 55 = .ok (.ireturn, 1) := by decide +kernel
theorem dX10_countCovers_56 : decode cX10_countCovers 56 = .ok (.aload_n 0, 1) := by decide +kernel
theorem dX10_countCovers_57 : decode cX10_countCovers 57 = .ok (.getfield 49, 3) := by decide +kernel
theorem dX10_countCovers_60 : decode cX10_countCovers 60 = .ok (.invokevirtual 300, 3) := by decide +kernel
theorem dX10_countCovers_63 : decode cX10_countCovers 63 = .ok (.ireturn, 1) := by decide +kernel
theorem dX10_countCovers_64 : decode cX10_countCovers 64 = .ok (.aload_n 0, 1) := by decide +kernel
theorem dX10_countCovers_65 : decode cX10_countCovers 65 = .ok (.getfield 19, 3) := by decide +kernel
theorem dX10_countCovers_68 : decode cX10_countCovers 68 = .ok (.aload_n 0, 1) := by decide +kernel
theorem dX10_countCovers_69 : decode cX10_countCovers 69 = .ok (.getfield 49, 3) := by decide +kernel
theorem dX10_countCovers_72 : decode cX10_countCovers 72 = .ok (.getfield 303, 3) := by decide +kernel
theorem dX10_countCovers_75 : decode cX10_countCovers 75 = .ok (.invokevirtual 306, 3) := by decide +kernel
theorem dX10_countCovers_78 : decode cX10_countCovers 78 = .ok (.ireturn, 1) := by decide +kernel
theorem dX10_countCovers_79 : decode cX10_countCovers 79 = .ok (.bipush (-2), 2) := by decide +kernel
theorem dX10_countCovers_81 : decode cX10_countCovers 81 = .ok (.ireturn, 1) := by decide +kernel
theorem dX10_slotAt_0 : decode cX10_slotAt 0 = .ok (.iload_n 1, 1) := by decide +kernel
theorem dX10_slotAt_1 : decode cX10_slotAt 1 = .ok (.ifCond .lt 21, 3) := by decide +kernel
theorem dX10_slotAt_4 : decode cX10_slotAt 4 = .ok (.iload_n 1, 1) := by decide +kernel
theorem dX10_slotAt_5 : decode cX10_slotAt 5 = .ok (.aload_n 0, 1) := by decide +kernel
theorem dX10_slotAt_6 : decode cX10_slotAt 6 = .ok (.getfield 33, 3) := by decide +kernel
theorem dX10_slotAt_9 : decode cX10_slotAt 9 = .ok (.arraylength, 1) := by decide +kernel
theorem dX10_slotAt_10 : decode cX10_slotAt 10 = .ok (.if_icmp .ge 12, 3) := by decide +kernel
theorem dX10_slotAt_13 : decode cX10_slotAt 13 = .ok (.aload_n 0, 1) := by decide +kernel
theorem dX10_slotAt_14 : decode cX10_slotAt 14 = .ok (.getfield 33, 3) := by decide +kernel
theorem dX10_slotAt_17 : decode cX10_slotAt 17 = .ok (.iload_n 1, 1) := by decide +kernel
theorem dX10_slotAt_18 : decode cX10_slotAt 18 = .ok (.aaload, 1) := by decide +kernel
theorem dX10_slotAt_19 : decode cX10_slotAt 19 = .ok (.goto 4, 3) := by decide +kernel
theorem dX10_slotAt_22 : decode cX10_slotAt 22 = .ok (.aconst_null, 1) := by decide +kernel
theorem dX10_slotAt_23 : decode cX10_slotAt 23 = .ok (.areturn, 1) := by decide +kernel
set_option maxRecDepth 20000 in
theorem ggX10_isDoneOrSo_X3_grid : GoodIn wsX10_isDoneOrSo wsX3_grid := goodIn_r _ [8, 9, 10, 11, 12, 13, 14, 15, 16, 17, 18, 19, 20, 21, 22, 7, 23, 24, 25, 26, 27, 228, 229, 230, 231, 232] (by decide +kernel) (by decide +kernel)
set_option maxRecDepth 20000 in
theorem gX10_isDoneOrSo_X3_grid : GoodIn wsX10_isDoneOrSo (wsV RX10 178 RX3 yX3_grid wsX3_grid) := goodIn_app (goodIn_of _ (by decide +kernel)) ggX10_isDoneOrSo_X3_grid
set_option maxRecDepth 20000 in
theorem ggX10_isDoneOrSo_X2_learn : GoodIn wsX10_isDoneOrSo wsX2_learn := goodIn_r _ [32, 33, 34, 35, 36, 37, 38, 26, 39, 40, 41, 42, 43, 44, 45, 46, 47, 48, 49, 50, 51, 52, 53, 54, 55, 56, 57, 58, 31, 59, 60, 61, 62, 63, 64, 65, 66, 67, 68, 69, 70, 71, 72, 73, 74, 75, 76, 233, 234, 235, 236] (by decide +kernel) (by decide +kernel)
set_option maxRecDepth 20000 in
theorem gX10_isDoneOrSo_X2_learn : GoodIn wsX10_isDoneOrSo (wsV RX10 188 RX2 yX2_learn wsX2_learn) := goodIn_app (goodIn_of _ (by decide +kernel)) ggX10_isDoneOrSo_X2_learn
set_option maxRecDepth 20000 in
theorem ggX10_isDoneOrSo_X2_reachedCount : GoodIn wsX10_isDoneOrSo wsX2_reachedCount := goodIn_r _ [80, 34, 81, 47, 48, 49, 50, 51, 52, 233, 234, 235, 236] (by decide +kernel) (by decide +kernel)
set_option maxRecDepth 20000 in
theorem gX10_isDoneOrSo_X2_reachedCount : GoodIn wsX10_isDoneOrSo (wsV RX10 196 RX2 yX2_reachedCount wsX2_reachedCount) := goodIn_app (goodIn_of _ (by decide +kernel)) ggX10_isDoneOrSo_X2_reachedCount
set_option maxRecDepth 20000 in
theorem ggX10_isDoneOrSo_X3_isKnot : GoodIn wsX10_isDoneOrSo wsX3_isKnot := goodIn_r _ [85, 86, 228, 229, 230] (by decide +kernel) (by decide +kernel)
set_option maxRecDepth 20000 in
theorem gX10_isDoneOrSo_X3_isKnot : GoodIn wsX10_isDoneOrSo (wsV RX10 141 RX3 yX3_isKnot wsX3_isKnot) := goodIn_app (goodIn_of _ (by decide +kernel)) ggX10_isDoneOrSo_X3_isKnot
set_option maxRecDepth 20000 in
theorem ggX10_isDoneOrSo_X2_depthOf : GoodIn wsX10_isDoneOrSo wsX2_depthOf := goodIn_r _ [90, 56, 57, 58, 31, 59, 34, 60, 61, 26, 62, 91, 92, 93, 94, 36, 95, 54, 55, 81, 47, 48, 49, 50, 51, 52, 233, 234, 235, 236] (by decide +kernel) (by decide +kernel)
set_option maxRecDepth 20000 in
theorem gX10_isDoneOrSo_X2_depthOf : GoodIn wsX10_isDoneOrSo (wsV RX10 154 RX2 yX2_depthOf wsX2_depthOf) := goodIn_app (goodIn_of _ (by decide +kernel)) ggX10_isDoneOrSo_X2_depthOf
set_option maxRecDepth 20000 in
theorem ggX10_isDoneOrSo_X3_areKnots : GoodIn wsX10_isDoneOrSo wsX3_areKnots := goodIn_r _ [99, 100, 83, 84, 7, 85, 86, 228, 229, 230] (by decide +kernel) (by decide +kernel)
set_option maxRecDepth 20000 in
theorem gX10_isDoneOrSo_X3_areKnots : GoodIn wsX10_isDoneOrSo (wsV RX10 102 RX3 yX3_areKnots wsX3_areKnots) := goodIn_app (goodIn_of _ (by decide +kernel)) ggX10_isDoneOrSo_X3_areKnots
set_option maxRecDepth 20000 in
theorem ggX10_isDoneOrSo_X3_insertIfItCanBe : GoodIn wsX10_isDoneOrSo wsX3_insertIfItCanBe := goodIn_r _ [104, 105, 106, 107, 7, 108, 109, 110, 111, 112, 9, 10, 11, 12, 13, 14, 15, 16, 17, 18, 19, 20, 21, 22, 23, 113, 114, 115, 116, 117, 118, 119, 120, 121, 122, 123, 124, 125, 126, 127, 128, 129, 130, 131, 132, 133, 134, 135, 136, 137, 228, 229, 230, 231, 232] (by decide +kernel) (by decide +kernel)
set_option maxRecDepth 20000 in
theorem gX10_isDoneOrSo_X3_insertIfItCanBe : GoodIn wsX10_isDoneOrSo (wsV RX10 309 RX3 yX3_insertIfItCanBe wsX3_insertIfItCanBe) := goodIn_app (goodIn_of _ (by decide +kernel)) ggX10_isDoneOrSo_X3_insertIfItCanBe
set_option maxRecDepth 20000 in
theorem ggX10_isDoneOrSo_X3_deleteIfItIsThere : GoodIn wsX10_isDoneOrSo wsX3_deleteIfItIsThere := goodIn_r _ [141, 105, 106, 107, 7, 108, 109, 110, 111, 112, 9, 10, 11, 12, 13, 14, 15, 16, 17, 18, 19, 20, 21, 22, 23, 113, 114, 115, 142, 143, 144, 145, 146, 147, 148, 149, 228, 229, 230, 231, 232] (by decide +kernel) (by decide +kernel)
set_option maxRecDepth 20000 in
theorem gX10_isDoneOrSo_X3_deleteIfItIsThere : GoodIn wsX10_isDoneOrSo (wsV RX10 312 RX3 yX3_deleteIfItIsThere wsX3_deleteIfItIsThere) := goodIn_app (goodIn_of _ (by decide +kernel)) ggX10_isDoneOrSo_X3_deleteIfItIsThere
set_option maxRecDepth 20000 in
theorem ggX10_isDoneOrSo_X2_coveredBy : GoodIn wsX10_isDoneOrSo wsX2_coveredBy := goodIn_r _ [153, 35, 95, 54, 26, 55, 233, 234, 235, 236] (by decide +kernel) (by decide +kernel)
set_option maxRecDepth 20000 in
theorem gX10_isDoneOrSo_X2_coveredBy : GoodIn wsX10_isDoneOrSo (wsV RX10 166 RX2 yX2_coveredBy wsX2_coveredBy) := goodIn_app (goodIn_of _ (by decide +kernel)) ggX10_isDoneOrSo_X2_coveredBy
set_option maxRecDepth 20000 in
theorem ggX10_isDoneOrSo_X5_isIn : GoodIn wsX10_isDoneOrSo wsX5_isIn := goodIn_r _ [62] (by decide +kernel) (by decide +kernel)
set_option maxRecDepth 20000 in
theorem gX10_isDoneOrSo_X5_isIn : GoodIn wsX10_isDoneOrSo (va_wsS RX10 291 yX5_isIn wsX5_isIn) := goodIn_app (goodIn_of _ (by decide +kernel)) ggX10_isDoneOrSo_X5_isIn
set_option maxRecDepth 20000 in
theorem ggX10_isDoneOrSo_X2_lidOf : GoodIn wsX10_isDoneOrSo wsX2_lidOf := goodIn_r _ [158, 91, 92, 93, 31, 94, 36, 95, 54, 26, 55, 63, 41, 42, 159, 160, 161, 162, 233, 234, 235, 236] (by decide +kernel) (by decide +kernel)
set_option maxRecDepth 20000 in
theorem gX10_isDoneOrSo_X2_lidOf : GoodIn wsX10_isDoneOrSo (wsV RX10 151 RX2 yX2_lidOf wsX2_lidOf) := goodIn_app (goodIn_of _ (by decide +kernel)) ggX10_isDoneOrSo_X2_lidOf
set_option maxRecDepth 20000 in
theorem ggX10_isDoneOrSo_X9_go : GoodIn wsX10_isDoneOrSo wsX9_go := goodIn_r _ [167, 168, 169, 170, 171, 5, 6, 7, 8, 9, 10, 11, 12, 13, 14, 15, 16, 17, 18, 19, 20, 21, 22, 23, 24, 25, 26, 27, 172, 173, 174, 175, 176, 130, 131, 132, 133, 134, 135, 136, 137, 121, 122, 123, 177, 41, 42, 178, 179, 180, 181, 182, 183, 184, 61, 62, 185, 186, 187, 188, 189, 147, 148, 149, 237, 238, 239, 228, 229, 230, 231, 232] (by decide +kernel) (by decide +kernel)
set_option maxRecDepth 20000 in
theorem gX10_isDoneOrSo_X9_go : GoodIn wsX10_isDoneOrSo (wsV RX10 157 RX9 yX9_go wsX9_go) := goodIn_app (goodIn_of _ (by decide +kernel)) ggX10_isDoneOrSo_X9_go
set_option maxRecDepth 20000 in
theorem ggX10_isDoneOrSo_X9_halfOf : GoodIn wsX10_isDoneOrSo wsX9_halfOf := goodIn_r _ [193, 169, 194, 195, 196, 166, 197, 198, 199, 200, 13, 201, 15, 202, 17, 18, 19, 20, 203, 204, 205, 206, 168, 207, 73, 26, 74, 53, 54, 55, 75, 61, 62, 40, 41, 42, 208, 44, 45, 46, 47, 48, 49, 50, 51, 52, 177, 178, 11, 12, 14, 179, 209, 237, 238, 239, 231, 232] (by decide +kernel) (by decide +kernel)
set_option maxRecDepth 20000 in
theorem gX10_isDoneOrSo_X9_halfOf : GoodIn wsX10_isDoneOrSo (wsV RX10 163 RX9 yX9_halfOf wsX9_halfOf) := goodIn_app (goodIn_of _ (by decide +kernel)) ggX10_isDoneOrSo_X9_halfOf
set_option maxRecDepth 20000 in
theorem ggX10_isDoneOrSo_X2_rimOf : GoodIn wsX10_isDoneOrSo wsX2_rimOf := goodIn_r _ [213, 33, 214, 151, 152, 31, 153, 35, 95, 54, 26, 55, 60, 61, 62, 63, 41, 42, 233, 234, 235, 236] (by decide +kernel) (by decide +kernel)
set_option maxRecDepth 20000 in
theorem gX10_isDoneOrSo_X2_rimOf : GoodIn wsX10_isDoneOrSo (wsV RX10 169 RX2 yX2_rimOf wsX2_rimOf) := goodIn_app (goodIn_of _ (by decide +kernel)) ggX10_isDoneOrSo_X2_rimOf
theorem dX10_isDoneOrSo_0 : decode cX10_isDoneOrSo 0 = .ok (.aload_n 0, 1) := by decide +kernel
theorem dX10_isDoneOrSo_1 : decode cX10_isDoneOrSo 1 = .ok (.getfield 53, 3) := by decide +kernel
theorem dX10_isDoneOrSo_4 : decode cX10_isDoneOrSo 4 = .ok (.aload_n 0, 1) := by decide +kernel
theorem dX10_isDoneOrSo_5 : decode cX10_isDoneOrSo 5 = .ok (.getfield 23, 3) := by decide +kernel
theorem dX10_isDoneOrSo_8 : decode cX10_isDoneOrSo 8 = .ok (.invokevirtual 178, 3) := by decide +kernel
theorem dX10_isDoneOrSo_11 : decode cX10_isDoneOrSo 11 = .ok (.invokevirtual 188, 3) := by decide +kernel
theorem dX10_isDoneOrSo_14 : decode cX10_isDoneOrSo 14 = .ok (.iload_n 1, 1) := by decide +kernel
theorem dX10_isDoneOrSo_15 : decode cX10_isDoneOrSo 15 = .ok (.bipush 8, 2) := by decide +kernel
theorem dX10_isDoneOrSo_17 : decode cX10_isDoneOrSo 17 = .ok (.if_icmp .ne 24, 3) := by decide +kernel
theorem dX10_isDoneOrSo_20 : decode cX10_isDoneOrSo 20 = .ok (.iload_n 2, 1) := by decide +kernel
theorem dX10_isDoneOrSo_21 : decode cX10_isDoneOrSo 21 = .ok (.ifCond .ne 18, 3) := by decide +kernel
theorem dX10_isDoneOrSo_24 : decode cX10_isDoneOrSo 24 = .ok (.aload_n 0, 1) := by decide +kernel
theorem dX10_isDoneOrSo_25 : decode cX10_isDoneOrSo 25 = .ok (.getfield 53, 3) := by decide +kernel
theorem dX10_isDoneOrSo_28 : decode cX10_isDoneOrSo 28 = .ok (.invokevirtual 196, 3) := by decide +kernel
theorem dX10_isDoneOrSo_31 : decode cX10_isDoneOrSo 31 = .ok (.iload_n 3, 1) := by decide +kernel
theorem dX10_isDoneOrSo_32 : decode cX10_isDoneOrSo 32 = .ok (.if_icmp .lt 7, 3) := by decide +kernel
theorem dX10_isDoneOrSo_35 : decode cX10_isDoneOrSo 35 = .ok (.iconst 1, 1) := by decide +kernel
theorem dX10_isDoneOrSo_36 : decode cX10_isDoneOrSo 36 = .ok (.goto 4, 3) := by decide +kernel
theorem dX10_isDoneOrSo_39 : decode cX10_isDoneOrSo 39 = .ok (.iconst 0, 1) := by decide +kernel
theorem dX10_isDoneOrSo_40 : decode cX10_isDoneOrSo 40 = .ok (.ireturn, 1) := by decide +kernel
theorem dX10_isDoneOrSo_41 : decode cX10_isDoneOrSo 41 = .ok (.iload_n 1, 1) := by decide +kernel
theorem dX10_isDoneOrSo_42 : decode cX10_isDoneOrSo 42 = .ok (.iconst 5, 1) := by decide +kernel
theorem dX10_isDoneOrSo_43 : decode cX10_isDoneOrSo 43 = .ok (.if_icmp .ne 32, 3) := by decide +kernel
theorem dX10_isDoneOrSo_46 : decode cX10_isDoneOrSo 46 = .ok (.aload_n 0, 1) := by decide +kernel
theorem dX10_isDoneOrSo_47 : decode cX10_isDoneOrSo 47 = .ok (.getfield 23, 3) := by decide +kernel
theorem dX10_isDoneOrSo_50 : decode cX10_isDoneOrSo 50 = .ok (.iload_n 2, 1) := by decide +kernel
theorem dX10_isDoneOrSo_51 : decode cX10_isDoneOrSo 51 = .ok (.invokevirtual 141, 3) := by decide +kernel
theorem dX10_isDoneOrSo_54 : decode cX10_isDoneOrSo 54 = .ok (.ifCond .eq 19, 3) := by decide +kernel
theorem dX10_isDoneOrSo_57 : decode cX10_isDoneOrSo 57 = .ok (.aload_n 0, 1) := by decide +kernel
theorem dX10_isDoneOrSo_58 : decode cX10_isDoneOrSo 58 = .ok (.getfield 53, 3) := by decide +kernel
theorem dX10_isDoneOrSo_61 : decode cX10_isDoneOrSo 61 = .ok (.iload_n 2, 1) := by decide +kernel
theorem dX10_isDoneOrSo_62 : decode cX10_isDoneOrSo 62 = .ok (.invokevirtual 154, 3) := by decide +kernel
theorem dX10_isDoneOrSo_65 : decode cX10_isDoneOrSo 65 = .ok (.iload_n 3, 1) := by decide +kernel
theorem dX10_isDoneOrSo_66 : decode cX10_isDoneOrSo 66 = .ok (.if_icmp .ne 7, 3) := by decide +kernel
theorem dX10_isDoneOrSo_69 : decode cX10_isDoneOrSo 69 = .ok (.iconst 1, 1) := by decide +kernel
theorem dX10_isDoneOrSo_70 : decode cX10_isDoneOrSo 70 = .ok (.goto 4, 3) := by decide +kernel
theorem dX10_isDoneOrSo_73 : decode cX10_isDoneOrSo 73 = .ok (.iconst 0, 1) := by decide +kernel
theorem dX10_isDoneOrSo_74 : decode cX10_isDoneOrSo 74 = .ok (.ireturn, 1) := by decide +kernel
theorem dX10_isDoneOrSo_75 : decode cX10_isDoneOrSo 75 = .ok (.aload_n 0, 1) := by decide +kernel
theorem dX10_isDoneOrSo_76 : decode cX10_isDoneOrSo 76 = .ok (.getfield 23, 3) := by decide +kernel
theorem dX10_isDoneOrSo_79 : decode cX10_isDoneOrSo 79 = .ok (.iload_n 2, 1) := by decide +kernel
theorem dX10_isDoneOrSo_80 : decode cX10_isDoneOrSo 80 = .ok (.iload_n 3, 1) := by decide +kernel
theorem dX10_isDoneOrSo_81 : decode cX10_isDoneOrSo 81 = .ok (.invokevirtual 102, 3) := by decide +kernel
theorem dX10_isDoneOrSo_84 : decode cX10_isDoneOrSo 84 = .ok (.ifCond .ne 5, 3) := by decide +kernel
theorem dX10_isDoneOrSo_87 : decode cX10_isDoneOrSo 87 = .ok (.iconst 0, 1) := by decide +kernel
theorem dX10_isDoneOrSo_88 : decode cX10_isDoneOrSo 88 = .ok (.ireturn, 1) := by decide +kernel
theorem dX10_isDoneOrSo_89 : decode cX10_isDoneOrSo 89 = .ok (.iload_n 1, 1) := by decide +kernel
theorem dX10_isDoneOrSo_90 : decode cX10_isDoneOrSo 90 = .ok (.tableswitch 135 1 7 #[42, 52, 62, 75, 135, 93, 122], 42) := by decide +kernel
theorem dX10_isDoneOrSo_132 : decode cX10_isDoneOrSo 132 = .ok (.aload_n 0, 1) := by decide +kernel
theorem dX10_isDoneOrSo_133 : decode cX10_isDoneOrSo 133 = .ok (.getfield 23, 3) := by decide +kernel
theorem dX10_isDoneOrSo_136 : decode cX10_isDoneOrSo 136 = .ok (.iload_n 2, 1) := by decide +kernel
theorem dX10_isDoneOrSo_137 : decode cX10_isDoneOrSo 137 = .ok (.iload_n 3, 1) := by decide +kernel
theorem dX10_isDoneOrSo_138 : decode cX10_isDoneOrSo 138 = .ok (.invokevirtual 309, 3) := by decide +kernel
theorem dX10_isDoneOrSo_141 : decode cX10_isDoneOrSo 141 = .ok (.ireturn, 1) := by decide +kernel
theorem dX10_isDoneOrSo_142 : decode cX10_isDoneOrSo 142 = .ok (.aload_n 0, 1) := by decide +kernel
theorem dX10_isDoneOrSo_143 : decode cX10_isDoneOrSo 143 = .ok (.getfield 23, 3) := by decide +kernel
theorem dX10_isDoneOrSo_146 : decode cX10_isDoneOrSo 146 = .ok (.iload_n 2, 1) := by decide +kernel
theorem dX10_isDoneOrSo_147 : decode cX10_isDoneOrSo 147 = .ok (.iload_n 3, 1) := by decide +kernel
theorem dX10_isDoneOrSo_148 : decode cX10_isDoneOrSo 148 = .ok (.invokevirtual 312, 3) := by decide +kernel
theorem dX10_isDoneOrSo_151 : decode cX10_isDoneOrSo 151 = .ok (.ireturn, 1) := by decide +kernel
theorem dX10_isDoneOrSo_152 : decode cX10_isDoneOrSo 152 = .ok (.aload_n 0, 1) := by decide +kernel
theorem dX10_isDoneOrSo_153 : decode cX10_isDoneOrSo 153 = .ok (.getfield 53, 3) := by decide +kernel
theorem dX10_isDoneOrSo_156 : decode cX10_isDoneOrSo 156 = .ok (.iload_n 2, 1) := by decide +kernel
theorem dX10_isDoneOrSo_157 : decode cX10_isDoneOrSo 157 = .ok (.invokevirtual 166, 3) := by decide +kernel
theorem dX10_isDoneOrSo_160 : decode cX10_isDoneOrSo 160 = .ok (.iload_n 3, 1) := by decide +kernel
theorem dX10_isDoneOrSo_161 : decode cX10_isDoneOrSo 161 = .ok (.invokestatic 291, 3) := by decide +kernel
theorem dX10_isDoneOrSo_164 : decode cX10_isDoneOrSo 164 = .ok (.ireturn, 1) := by decide +kernel
theorem dX10_isDoneOrSo_165 : decode cX10_isDoneOrSo 165 = .ok (.aload_n 0, 1) := by decide +kernel
theorem dX10_isDoneOrSo_166 : decode cX10_isDoneOrSo 166 = .ok (.getfield 53, 3) := by decide +kernel
theorem dX10_isDoneOrSo_169 : decode cX10_isDoneOrSo 169 = .ok (.iload_n 3, 1) := by decide +kernel
theorem dX10_isDoneOrSo_170 : decode cX10_isDoneOrSo 170 = .ok (.invokevirtual 151, 3) := by decide +kernel
theorem dX10_isDoneOrSo_173 : decode cX10_isDoneOrSo 173 = .ok (.iload_n 2, 1) := by decide +kernel
theorem dX10_isDoneOrSo_174 : decode cX10_isDoneOrSo 174 = .ok (.if_icmp .ne 7, 3) := by decide +kernel
theorem dX10_isDoneOrSo_177 : decode cX10_isDoneOrSo 177 = .ok (.iconst 1, 1) := by decide +kernel
theorem dX10_isDoneOrSo_178 : decode cX10_isDoneOrSo 178 = .ok (.goto 4, 3) := by decide +kernel
theorem dX10_isDoneOrSo_181 : decode cX10_isDoneOrSo 181 = .ok (.iconst 0, 1) := by decide +kernel
theorem dX10_isDoneOrSo_182 : decode cX10_isDoneOrSo 182 = .ok (.ireturn, 1) := by decide +kernel
theorem dX10_isDoneOrSo_183 : decode cX10_isDoneOrSo 183 = .ok (.aload_n 0, 1) := by decide +kernel
theorem dX10_isDoneOrSo_184 : decode cX10_isDoneOrSo 184 = .ok (.getfield 59, 3) := by decide +kernel
theorem dX10_isDoneOrSo_187 : decode cX10_isDoneOrSo 187 = .ok (.aload_n 0, 1) := by decide +kernel
theorem dX10_isDoneOrSo_188 : decode cX10_isDoneOrSo 188 = .ok (.getfield 23, 3) := by decide +kernel
theorem dX10_isDoneOrSo_191 : decode cX10_isDoneOrSo 191 = .ok (.invokevirtual 157, 3) := by decide +kernel
theorem dX10_isDoneOrSo_194 : decode cX10_isDoneOrSo 194 = .ok (.aload_n 0, 1) := by decide +kernel
theorem dX10_isDoneOrSo_195 : decode cX10_isDoneOrSo 195 = .ok (.getfield 59, 3) := by decide +kernel
theorem dX10_isDoneOrSo_198 : decode cX10_isDoneOrSo 198 = .ok (.iload_n 3, 1) := by decide +kernel
theorem dX10_isDoneOrSo_199 : decode cX10_isDoneOrSo 199 = .ok (.invokevirtual 163, 3) := by decide +kernel
theorem dX10_isDoneOrSo_202 : decode cX10_isDoneOrSo 202 = .ok (.iload_n 2, 1) := by decide +kernel
theorem dX10_isDoneOrSo_203 : decode cX10_isDoneOrSo 203 = .ok (.if_icmp .ne 7, 3) := by decide +kernel
theorem dX10_isDoneOrSo_206 : decode cX10_isDoneOrSo 206 = .ok (.iconst 1, 1) := by decide +kernel
theorem dX10_isDoneOrSo_207 : decode cX10_isDoneOrSo 207 = .ok (.goto 4, 3) := by decide +kernel
theorem dX10_isDoneOrSo_210 : decode cX10_isDoneOrSo 210 = .ok (.iconst 0, 1) := by decide +kernel
theorem dX10_isDoneOrSo_211 : decode cX10_isDoneOrSo 211 = .ok (.ireturn, 1) := by decide +kernel
theorem dX10_isDoneOrSo_212 : decode cX10_isDoneOrSo 212 = .ok (.aload_n 0, 1) := by decide +kernel
theorem dX10_isDoneOrSo_213 : decode cX10_isDoneOrSo 213 = .ok (.getfield 53, 3) := by decide +kernel
theorem dX10_isDoneOrSo_216 : decode cX10_isDoneOrSo 216 = .ok (.iload_n 2, 1) := by decide +kernel
theorem dX10_isDoneOrSo_217 : decode cX10_isDoneOrSo 217 = .ok (.invokevirtual 169, 3) := by decide +kernel
theorem dX10_isDoneOrSo_220 : decode cX10_isDoneOrSo 220 = .ok (.iload_n 3, 1) := by decide +kernel
theorem dX10_isDoneOrSo_221 : decode cX10_isDoneOrSo 221 = .ok (.invokestatic 291, 3) := by decide +kernel
theorem dX10_isDoneOrSo_224 : decode cX10_isDoneOrSo 224 = .ok (.ireturn, 1) := by decide +kernel
theorem dX10_isDoneOrSo_225 : decode cX10_isDoneOrSo 225 = .ok (.iconst 0, 1) := by decide +kernel
theorem dX10_isDoneOrSo_226 : decode cX10_isDoneOrSo 226 = .ok (.ireturn, 1) := by decide +kernel
set_option maxRecDepth 20000 in
theorem ggX10_mayBeMissing_X3_has : GoodIn wsX10_mayBeMissing wsX3_has := goodIn_r _ [7, 8, 9, 10, 6, 11, 12, 13, 14, 15, 16, 17, 18, 19, 20, 21, 22, 23, 24, 25, 26, 27, 28, 29, 122, 123, 124, 125, 126] (by decide +kernel) (by decide +kernel)
set_option maxRecDepth 20000 in
theorem gX10_mayBeMissing_X3_has : GoodIn wsX10_mayBeMissing (wsV RX10 106 RX3 yX3_has wsX3_has) := goodIn_app (goodIn_of _ (by decide +kernel)) ggX10_mayBeMissing_X3_has
set_option maxRecDepth 20000 in
theorem ggX10_mayBeMissing_X3_grid : GoodIn wsX10_mayBeMissing wsX3_grid := goodIn_r _ [33, 12, 13, 14, 15, 16, 17, 18, 19, 20, 21, 22, 23, 24, 25, 6, 26, 34, 35, 36, 37, 122, 123, 124, 125, 126] (by decide +kernel) (by decide +kernel)
set_option maxRecDepth 20000 in
theorem gX10_mayBeMissing_X3_grid : GoodIn wsX10_mayBeMissing (wsV RX10 178 RX3 yX3_grid wsX3_grid) := goodIn_app (goodIn_of _ (by decide +kernel)) ggX10_mayBeMissing_X3_grid
set_option maxRecDepth 20000 in
theorem ggX10_mayBeMissing_X5_flipped : GoodIn wsX10_mayBeMissing wsX5_flipped := goodIn_r _ [37] (by decide +kernel) (by decide +kernel)
set_option maxRecDepth 20000 in
theorem gX10_mayBeMissing_X5_flipped : GoodIn wsX10_mayBeMissing (va_wsS RX10 182 yX5_flipped wsX5_flipped) := goodIn_app (goodIn_of _ (by decide +kernel)) ggX10_mayBeMissing_X5_flipped
set_option maxRecDepth 20000 in
theorem ggX10_mayBeMissing_X2_learn : GoodIn wsX10_mayBeMissing wsX2_learn := goodIn_r _ [43, 44, 45, 46, 47, 48, 49, 36, 50, 51, 52, 53, 54, 55, 56, 57, 58, 59, 60, 61, 62, 63, 64, 65, 66, 67, 68, 69, 42, 70, 71, 72, 73, 74, 75, 76, 77, 78, 79, 80, 81, 82, 83, 84, 85, 86, 87, 127, 128, 129, 130] (by decide +kernel) (by decide +kernel)
set_option maxRecDepth 20000 in
theorem gX10_mayBeMissing_X2_learn : GoodIn wsX10_mayBeMissing (wsV RX10 188 RX2 yX2_learn wsX2_learn) := goodIn_app (goodIn_of _ (by decide +kernel)) ggX10_mayBeMissing_X2_learn
set_option maxRecDepth 20000 in
theorem ggX10_mayBeMissing_X10_isAllSeenIn : GoodIn wsX10_mayBeMissing wsX10_isAllSeenIn := goodIn_r _ [92, 93, 94, 14, 15, 16, 17, 18, 95, 20, 21, 22, 23, 96, 97, 98, 42, 99, 100, 101, 102, 103, 47, 104, 65, 36, 66, 74, 52, 53, 105, 106, 107, 108, 109, 110, 111, 112, 113, 114, 115, 116, 117, 118, 119, 120, 121, 125, 126, 127, 128, 129, 130] (by decide +kernel) (by decide +kernel)
set_option maxRecDepth 20000 in
theorem gX10_mayBeMissing_X10_isAllSeenIn : GoodIn wsX10_mayBeMissing (wsV RX10 315 RX10 yX10_isAllSeenIn wsX10_isAllSeenIn) := goodIn_app (goodIn_of _ (by decide +kernel)) ggX10_mayBeMissing_X10_isAllSeenIn
theorem dX10_mayBeMissing_0 : decode cX10_mayBeMissing 0 = .ok (.iload_n 1, 1) := by decide +kernel
theorem dX10_mayBeMissing_1 : decode cX10_mayBeMissing 1 = .ok (.iload_n 2, 1) := by decide +kernel
theorem dX10_mayBeMissing_2 : decode cX10_mayBeMissing 2 = .ok (.if_icmp .eq 15, 3) := by decide +kernel
theorem dX10_mayBeMissing_5 : decode cX10_mayBeMissing 5 = .ok (.aload_n 0, 1) := by decide +kernel
theorem dX10_mayBeMissing_6 : decode cX10_mayBeMissing 6 = .ok (.getfield 19, 3) := by decide +kernel
theorem dX10_mayBeMissing_9 : decode cX10_mayBeMissing 9 = .ok (.iload_n 1, 1) := by decide +kernel
theorem dX10_mayBeMissing_10 : decode cX10_mayBeMissing 10 = .ok (.iload_n 2, 1) := by decide +kernel
theorem dX10_mayBeMissing_11 : decode cX10_mayBeMissing 11 = .ok (.invokevirtual 106, 3) := by decide +kernel
theorem dX10_mayBeMissing_14 : decode cX10_mayBeMissing 14 = .ok (.ifCond .eq 5, 3) := by decide +kernel
theorem dX10_mayBeMissing_17 : decode cX10_mayBeMissing 17 = .ok (.iconst 0, 1) := by decide +kernel
theorem dX10_mayBeMissing_18 : decode cX10_mayBeMissing 18 = .ok (.ireturn, 1) := by decide +kernel
theorem dX10_mayBeMissing_19 : decode cX10_mayBeMissing 19 = .ok (.aload_n 0, 1) := by decide +kernel
theorem dX10_mayBeMissing_20 : decode cX10_mayBeMissing 20 = .ok (.getfield 53, 3) := by decide +kernel
theorem dX10_mayBeMissing_23 : decode cX10_mayBeMissing 23 = .ok (.aload_n 0, 1) := by decide +kernel
theorem dX10_mayBeMissing_24 : decode cX10_mayBeMissing 24 = .ok (.getfield 19, 3) := by decide +kernel
theorem dX10_mayBeMissing_27 : decode cX10_mayBeMissing 27 = .ok (.invokevirtual 178, 3) := by decide +kernel
theorem dX10_mayBeMissing_30 : decode cX10_mayBeMissing 30 = .ok (.iload_n 1, 1) := by decide +kernel
theorem dX10_mayBeMissing_31 : decode cX10_mayBeMissing 31 = .ok (.iload_n 2, 1) := by decide +kernel
theorem dX10_mayBeMissing_32 : decode cX10_mayBeMissing 32 = .ok (.invokestatic 182, 3) := by decide +kernel
theorem dX10_mayBeMissing_35 : decode cX10_mayBeMissing 35 = .ok (.invokevirtual 188, 3) := by decide +kernel
theorem dX10_mayBeMissing_38 : decode cX10_mayBeMissing 38 = .ok (.aload_n 0, 1) := by decide +kernel
theorem dX10_mayBeMissing_39 : decode cX10_mayBeMissing 39 = .ok (.aload_n 0, 1) := by decide +kernel
theorem dX10_mayBeMissing_40 : decode cX10_mayBeMissing 40 = .ok (.getfield 53, 3) := by decide +kernel
theorem dX10_mayBeMissing_43 : decode cX10_mayBeMissing 43 = .ok (.invokevirtual 315, 3) := by decide +kernel
theorem dX10_mayBeMissing_46 : decode cX10_mayBeMissing 46 = .ok (.ireturn, 1) := by decide +kernel
set_option maxRecDepth 20000 in
theorem ggX10_isAllSeenIn_X6_size : GoodIn wsX10_isAllSeenIn wsX6_size := goodIn_r _ [6, 7, 47, 48] (by decide +kernel) (by decide +kernel)
set_option maxRecDepth 20000 in
theorem gX10_isAllSeenIn_X6_size : GoodIn wsX10_isAllSeenIn (wsV RX10 232 RX6 yX6_size wsX6_size) := goodIn_app (goodIn_of _ (by decide +kernel)) ggX10_isAllSeenIn_X6_size
set_option maxRecDepth 20000 in
theorem ggX10_isAllSeenIn_X6_at : GoodIn wsX10_isAllSeenIn wsX6_at := goodIn_r _ [11, 7, 12, 47, 48] (by decide +kernel) (by decide +kernel)
set_option maxRecDepth 20000 in
theorem gX10_isAllSeenIn_X6_at : GoodIn wsX10_isAllSeenIn (wsV RX10 319 RX6 yX6_at wsX6_at) := goodIn_app (goodIn_of _ (by decide +kernel)) ggX10_isAllSeenIn_X6_at
set_option maxRecDepth 20000 in
theorem ggX10_isAllSeenIn_X2_lidOf : GoodIn wsX10_isAllSeenIn wsX2_lidOf := goodIn_r _ [17, 18, 19, 20, 16, 21, 22, 23, 24, 25, 26, 27, 28, 29, 30, 31, 32, 33, 49, 50, 51, 52] (by decide +kernel) (by decide +kernel)
set_option maxRecDepth 20000 in
theorem gX10_isAllSeenIn_X2_lidOf : GoodIn wsX10_isAllSeenIn (wsV RX10 151 RX2 yX2_lidOf wsX2_lidOf) := goodIn_app (goodIn_of _ (by decide +kernel)) ggX10_isAllSeenIn_X2_lidOf
theorem dX10_isAllSeenIn_0 : decode cX10_isAllSeenIn 0 = .ok (.iconst 0, 1) := by decide +kernel
theorem dX10_isAllSeenIn_1 : decode cX10_isAllSeenIn 1 = .ok (.istore_n 2, 1) := by decide +kernel
theorem dX10_isAllSeenIn_2 : decode cX10_isAllSeenIn 2 = .ok (.iload_n 2, 1) := by decide +kernel
theorem dX10_isAllSeenIn_3 : decode cX10_isAllSeenIn 3 = .ok (.aload_n 0, 1) := by decide +kernel
theorem dX10_isAllSeenIn_4 : decode cX10_isAllSeenIn 4 = .ok (.getfield 42, 3) := by decide +kernel
theorem dX10_isAllSeenIn_7 : decode cX10_isAllSeenIn 7 = .ok (.invokevirtual 232, 3) := by decide +kernel
theorem dX10_isAllSeenIn_10 : decode cX10_isAllSeenIn 10 = .ok (.if_icmp .ge 67, 3) := by decide +kernel
theorem dX10_isAllSeenIn_13 : decode cX10_isAllSeenIn 13 = .ok (.aload_n 0, 1) := by decide +kernel
theorem dX10_isAllSeenIn_14 : decode cX10_isAllSeenIn 14 = .ok (.getfield 42, 3) := by decide +kernel
theorem dX10_isAllSeenIn_17 : decode cX10_isAllSeenIn 17 = .ok (.iload_n 2, 1) := by decide +kernel
theorem dX10_isAllSeenIn_18 : decode cX10_isAllSeenIn 18 = .ok (.invokevirtual 319, 3) := by decide +kernel
theorem dX10_isAllSeenIn_21 : decode cX10_isAllSeenIn 21 = .ok (.istore_n 3, 1) := by decide +kernel
theorem dX10_isAllSeenIn_22 : decode cX10_isAllSeenIn 22 = .ok (.iload_n 3, 1) := by decide +kernel
theorem dX10_isAllSeenIn_23 : decode cX10_isAllSeenIn 23 = .ok (.bipush 100, 2) := by decide +kernel
theorem dX10_isAllSeenIn_25 : decode cX10_isAllSeenIn 25 = .ok (.idiv, 1) := by decide +kernel
theorem dX10_isAllSeenIn_26 : decode cX10_isAllSeenIn 26 = .ok (.iconst 1, 1) := by decide +kernel
theorem dX10_isAllSeenIn_27 : decode cX10_isAllSeenIn 27 = .ok (.if_icmp .ne 7, 3) := by decide +kernel
theorem dX10_isAllSeenIn_30 : decode cX10_isAllSeenIn 30 = .ok (.iconst 1, 1) := by decide +kernel
theorem dX10_isAllSeenIn_31 : decode cX10_isAllSeenIn 31 = .ok (.goto 4, 3) := by decide +kernel
theorem dX10_isAllSeenIn_34 : decode cX10_isAllSeenIn 34 = .ok (.iconst 0, 1) := by decide +kernel
theorem dX10_isAllSeenIn_35 : decode cX10_isAllSeenIn 35 = .ok (.istore 4, 2) := by decide +kernel
theorem dX10_isAllSeenIn_37 : decode cX10_isAllSeenIn 37 = .ok (.aload_n 1, 1) := by decide +kernel
theorem dX10_isAllSeenIn_38 : decode cX10_isAllSeenIn 38 = .ok (.iload_n 3, 1) := by decide +kernel
theorem dX10_isAllSeenIn_39 : decode cX10_isAllSeenIn 39 = .ok (.bipush 10, 2) := by decide +kernel
theorem dX10_isAllSeenIn_41 : decode cX10_isAllSeenIn 41 = .ok (.idiv, 1) := by decide +kernel
theorem dX10_isAllSeenIn_42 : decode cX10_isAllSeenIn 42 = .ok (.bipush 10, 2) := by decide +kernel
theorem dX10_isAllSeenIn_44 : decode cX10_isAllSeenIn 44 = .ok (.irem, 1) := by decide +kernel
theorem dX10_isAllSeenIn_45 : decode cX10_isAllSeenIn 45 = .ok (.invokevirtual 151, 3) := by decide +kernel
theorem dX10_isAllSeenIn_48 : decode cX10_isAllSeenIn 48 = .ok (.iload_n 3, 1) := by decide +kernel
theorem dX10_isAllSeenIn_49 : decode cX10_isAllSeenIn 49 = .ok (.bipush 10, 2) := by decide +kernel
theorem dX10_isAllSeenIn_51 : decode cX10_isAllSeenIn 51 = .ok (.irem, 1) := by decide +kernel
theorem dX10_isAllSeenIn_52 : decode cX10_isAllSeenIn 52 = .ok (.if_icmp .ne 7, 3) := by decide +kernel
theorem dX10_isAllSeenIn_55 : decode cX10_isAllSeenIn 55 = .ok (.iconst 1, 1) := by decide +kernel
theorem dX10_isAllSeenIn_56 : decode cX10_isAllSeenIn 56 = .ok (.goto 4, 3) := by decide +kernel
theorem dX10_isAllSeenIn_59 : decode cX10_isAllSeenIn 59 = .ok (.iconst 0, 1) := by decide +kernel
theorem dX10_isAllSeenIn_60 : decode cX10_isAllSeenIn 60 = .ok (.istore 5, 2) := by decide +kernel
theorem dX10_isAllSeenIn_62 : decode cX10_isAllSeenIn 62 = .ok (.iload 5, 2) := by decide +kernel
theorem dX10_isAllSeenIn_64 : decode cX10_isAllSeenIn 64 = .ok (.iload 4, 2) := by decide +kernel
theorem dX10_isAllSeenIn_66 : decode cX10_isAllSeenIn 66 = .ok (.if_icmp .eq 5, 3) := by decide +kernel
theorem dX10_isAllSeenIn_69 : decode cX10_isAllSeenIn 69 = .ok (.iconst 0, 1) := by decide +kernel
theorem dX10_isAllSeenIn_70 : decode cX10_isAllSeenIn 70 = .ok (.ireturn, 1) := by decide +kernel
theorem dX10_isAllSeenIn_71 : decode cX10_isAllSeenIn 71 = .ok (.iinc 2 1, 3) := by decide +kernel
theorem dX10_isAllSeenIn_74 : decode cX10_isAllSeenIn 74 = .ok (.goto (-72), 3) := by decide +kernel
theorem dX10_isAllSeenIn_77 : decode cX10_isAllSeenIn 77 = .ok (.iconst 1, 1) := by decide +kernel
theorem dX10_isAllSeenIn_78 : decode cX10_isAllSeenIn 78 = .ok (.ireturn, 1) := by decide +kernel
