set_option maxRecDepth 20000 in
theorem ggX4_init_X0_init : GoodIn wsX4_init wsX0_init := goodIn_r _ [26, 27, 2, 3, 28, 29, 30, 31, 32, 33, 34, 35, 36, 68, 69, 70, 71] (by decide +kernel) (by decide +kernel)
set_option maxRecDepth 20000 in
theorem gX4_init_X0_init : GoodIn wsX4_init (wsX0_init) := ggX4_init_X0_init
set_option maxRecDepth 20000 in
theorem ggX4_init_X1_init : GoodIn wsX4_init wsX1_init := goodIn_r _ [39, 40, 2, 3, 41, 42, 5, 6, 43, 44, 25, 26, 27, 28, 29, 30, 31, 32, 33, 34, 35, 36, 80, 81, 68, 69, 70, 71] (by decide +kernel) (by decide +kernel)
set_option maxRecDepth 20000 in
theorem gX4_init_X1_init : GoodIn wsX4_init (wsX1_init) := ggX4_init_X1_init
set_option maxRecDepth 20000 in
theorem ggX4_init_X3_init : GoodIn wsX4_init wsX3_init := goodIn_r _ [47, 48, 2, 3, 49, 50, 51, 82, 83, 84, 85, 86, 87, 88] (by decide +kernel) (by decide +kernel)
set_option maxRecDepth 20000 in
theorem gX4_init_X3_init : GoodIn wsX4_init (wsX3_init) := ggX4_init_X3_init
set_option maxRecDepth 20000 in
theorem ggX4_init_X2_init : GoodIn wsX4_init wsX2_init := goodIn_r _ [54, 55, 2, 3, 32, 56, 57, 58, 59, 60, 61, 62, 63, 64, 65, 66, 67, 89, 90, 91, 92, 93, 94, 95, 96, 97, 98, 99, 100, 101, 102] (by decide +kernel) (by decide +kernel)
set_option maxRecDepth 20000 in
theorem gX4_init_X2_init : GoodIn wsX4_init (wsX2_init) := ggX4_init_X2_init
theorem dX4_init_0 : decode cX4_init 0 = .ok (.aload_n 0, 1) := by decide +kernel
theorem dX4_init_1 : decode cX4_init 1 = .ok (.invokespecial 1, 3) := by decide +kernel
theorem dX4_init_4 : decode cX4_init 4 = .ok (.aload_n 0, 1) := by decide +kernel
theorem dX4_init_5 : decode cX4_init 5 = .ok (.new 7, 3) := by decide +kernel
theorem dX4_init_8 : decode cX4_init 8 = .ok (.dup, 1) := by decide +kernel
theorem dX4_init_9 : decode cX4_init 9 = .ok (.bipush 24, 2) := by decide +kernel
theorem dX4_init_11 : decode cX4_init 11 = .ok (.invokespecial 11, 3) := by decide +kernel
theorem dX4_init_14 : decode cX4_init 14 = .ok (.putfield 14, 3) := by decide +kernel
theorem dX4_init_17 : decode cX4_init 17 = .ok (.aload_n 0, 1) := by decide +kernel
theorem dX4_init_18 : decode cX4_init 18 = .ok (.new 7, 3) := by decide +kernel
theorem dX4_init_21 : decode cX4_init 21 = .ok (.dup, 1) := by decide +kernel
theorem dX4_init_22 : decode cX4_init 22 = .ok (.bipush 30, 2) := by decide +kernel
theorem dX4_init_24 : decode cX4_init 24 = .ok (.invokespecial 11, 3) := by decide +kernel
theorem dX4_init_27 : decode cX4_init 27 = .ok (.putfield 18, 3) := by decide +kernel
theorem dX4_init_30 : decode cX4_init 30 = .ok (.aload_n 0, 1) := by decide +kernel
theorem dX4_init_31 : decode cX4_init 31 = .ok (.new 7, 3) := by decide +kernel
theorem dX4_init_34 : decode cX4_init 34 = .ok (.dup, 1) := by decide +kernel
theorem dX4_init_35 : decode cX4_init 35 = .ok (.bipush 24, 2) := by decide +kernel
theorem dX4_init_37 : decode cX4_init 37 = .ok (.invokespecial 11, 3) := by decide +kernel
theorem dX4_init_40 : decode cX4_init 40 = .ok (.putfield 21, 3) := by decide +kernel
theorem dX4_init_43 : decode cX4_init 43 = .ok (.aload_n 0, 1) := by decide +kernel
theorem dX4_init_44 : decode cX4_init 44 = .ok (.iconst 0, 1) := by decide +kernel
theorem dX4_init_45 : decode cX4_init 45 = .ok (.putfield 24, 3) := by decide +kernel
theorem dX4_init_48 : decode cX4_init 48 = .ok (.aload_n 0, 1) := by decide +kernel
theorem dX4_init_49 : decode cX4_init 49 = .ok (.new 28, 3) := by decide +kernel
theorem dX4_init_52 : decode cX4_init 52 = .ok (.dup, 1) := by decide +kernel
theorem dX4_init_53 : decode cX4_init 53 = .ok (.invokespecial 30, 3) := by decide +kernel
theorem dX4_init_56 : decode cX4_init 56 = .ok (.putfield 31, 3) := by decide +kernel
theorem dX4_init_59 : decode cX4_init 59 = .ok (.aload_n 0, 1) := by decide +kernel
theorem dX4_init_60 : decode cX4_init 60 = .ok (.new 35, 3) := by decide +kernel
theorem dX4_init_63 : decode cX4_init 63 = .ok (.dup, 1) := by decide +kernel
theorem dX4_init_64 : decode cX4_init 64 = .ok (.invokespecial 37, 3) := by decide +kernel
theorem dX4_init_67 : decode cX4_init 67 = .ok (.putfield 38, 3) := by decide +kernel
theorem dX4_init_70 : decode cX4_init 70 = .ok (.aload_n 0, 1) := by decide +kernel
theorem dX4_init_71 : decode cX4_init 71 = .ok (.new 42, 3) := by decide +kernel
theorem dX4_init_74 : decode cX4_init 74 = .ok (.dup, 1) := by decide +kernel
theorem dX4_init_75 : decode cX4_init 75 = .ok (.invokespecial 44, 3) := by decide +kernel
theorem dX4_init_78 : decode cX4_init 78 = .ok (.putfield 45, 3) := by decide +kernel
theorem dX4_init_81 : decode cX4_init 81 = .ok (.aload_n 0, 1) := by decide +kernel
theorem dX4_init_82 : decode cX4_init 82 = .ok (.iconst 0, 1) := by decide +kernel
theorem dX4_init_83 : decode cX4_init 83 = .ok (.putfield 49, 3) := by decide +kernel
theorem dX4_init_86 : decode cX4_init 86 = .ok (.return_, 1) := by decide +kernel
set_option maxRecDepth 20000 in
theorem ggX4_add_X4_isZeroOrOne : GoodIn wsX4_add wsX4_isZeroOrOne := goodIn_r _ [5] (by decide +kernel) (by decide +kernel)
set_option maxRecDepth 20000 in
theorem gX4_add_X4_isZeroOrOne : GoodIn wsX4_add (va_wsS RX4 52 yX4_isZeroOrOne wsX4_isZeroOrOne) := goodIn_app (goodIn_of _ (by decide +kernel)) ggX4_add_X4_isZeroOrOne
set_option maxRecDepth 20000 in
theorem ggX4_add_X4_isSetOfSigns : GoodIn wsX4_add wsX4_isSetOfSigns := goodIn_r _ [8] (by decide +kernel) (by decide +kernel)
set_option maxRecDepth 20000 in
theorem gX4_add_X4_isSetOfSigns : GoodIn wsX4_add (va_wsS RX4 56 yX4_isSetOfSigns wsX4_isSetOfSigns) := goodIn_app (goodIn_of _ (by decide +kernel)) ggX4_add_X4_isSetOfSigns
set_option maxRecDepth 20000 in
theorem ggX4_add_X0_size : GoodIn wsX4_add wsX0_size := goodIn_r _ [13, 14, 77, 78, 79, 80] (by decide +kernel) (by decide +kernel)
set_option maxRecDepth 20000 in
theorem gX4_add_X0_size : GoodIn wsX4_add (wsV RX4 59 RX0 yX0_size wsX0_size) := goodIn_app (goodIn_of _ (by decide +kernel)) ggX4_add_X0_size
set_option maxRecDepth 20000 in
theorem ggX4_add_X4_beginAct : GoodIn wsX4_add wsX4_beginAct := goodIn_r _ [18, 19, 1, 20, 21, 22, 23, 24, 25, 26, 27, 28, 29, 30, 31, 32, 33, 34, 12, 35, 36, 37, 38, 39, 14, 40, 41, 42, 43, 44, 10, 11, 13, 45, 46, 47, 48, 49, 50, 51, 52, 53, 54, 55, 56, 57, 58, 59, 60, 61, 62, 63, 64, 65, 66, 67, 69, 70, 71, 72, 73, 74, 75, 76, 81, 82, 77, 78, 79, 80] (by decide +kernel) (by decide +kernel)
set_option maxRecDepth 20000 in
theorem gX4_add_X4_beginAct : GoodIn wsX4_add (wsV RX4 63 RX4 yX4_beginAct wsX4_beginAct) := goodIn_app (goodIn_of _ (by decide +kernel)) ggX4_add_X4_beginAct
set_option maxRecDepth 20000 in
theorem ggX4_add_X0_append : GoodIn wsX4_add wsX0_append := goodIn_r _ [67, 14, 49, 58, 63, 77, 78, 79, 80] (by decide +kernel) (by decide +kernel)
set_option maxRecDepth 20000 in
theorem gX4_add_X0_append : GoodIn wsX4_add (wsV RX4 66 RX0 yX0_append wsX0_append) := goodIn_app (goodIn_of _ (by decide +kernel)) ggX4_add_X0_append
theorem dX4_add_0 : decode cX4_add 0 = .ok (.iload_n 1, 1) := by decide +kernel
theorem dX4_add_1 : decode cX4_add 1 = .ok (.invokestatic 52, 3) := by decide +kernel
theorem dX4_add_4 : decode cX4_add 4 = .ok (.ifCond .ne 5, 3) := by decide +kernel
theorem dX4_add_7 : decode cX4_add 7 = .ok (.iconst (-1), 1) := by decide +kernel
theorem dX4_add_8 : decode cX4_add 8 = .ok (.ireturn, 1) := by decide +kernel
theorem dX4_add_9 : decode cX4_add 9 = .ok (.iload_n 2, 1) := by decide +kernel
theorem dX4_add_10 : decode cX4_add 10 = .ok (.invokestatic 56, 3) := by decide +kernel
theorem dX4_add_13 : decode cX4_add 13 = .ok (.ifCond .eq 10, 3) := by decide +kernel
theorem dX4_add_16 : decode cX4_add 16 = .ok (.iload_n 3, 1) := by decide +kernel
theorem dX4_add_17 : decode cX4_add 17 = .ok (.invokestatic 56, 3) := by decide +kernel
theorem dX4_add_20 : decode cX4_add 20 = .ok (.ifCond .ne 6, 3) := by decide +kernel
theorem dX4_add_23 : decode cX4_add 23 = .ok (.bipush (-2), 2) := by decide +kernel
theorem dX4_add_25 : decode cX4_add 25 = .ok (.ireturn, 1) := by decide +kernel
theorem dX4_add_26 : decode cX4_add 26 = .ok (.iload_n 2, 1) := by decide +kernel
theorem dX4_add_27 : decode cX4_add 27 = .ok (.iload_n 3, 1) := by decide +kernel
theorem dX4_add_28 : decode cX4_add 28 = .ok (.ior, 1) := by decide +kernel
theorem dX4_add_29 : decode cX4_add 29 = .ok (.ifCond .eq 9, 3) := by decide +kernel
theorem dX4_add_32 : decode cX4_add 32 = .ok (.iload_n 2, 1) := by decide +kernel
theorem dX4_add_33 : decode cX4_add 33 = .ok (.iload_n 3, 1) := by decide +kernel
theorem dX4_add_34 : decode cX4_add 34 = .ok (.iand, 1) := by decide +kernel
theorem dX4_add_35 : decode cX4_add 35 = .ok (.ifCond .eq 6, 3) := by decide +kernel
theorem dX4_add_38 : decode cX4_add 38 = .ok (.bipush (-2), 2) := by decide +kernel
theorem dX4_add_40 : decode cX4_add 40 = .ok (.ireturn, 1) := by decide +kernel
theorem dX4_add_41 : decode cX4_add 41 = .ok (.aload_n 0, 1) := by decide +kernel
theorem dX4_add_42 : decode cX4_add 42 = .ok (.getfield 14, 3) := by decide +kernel
theorem dX4_add_45 : decode cX4_add 45 = .ok (.invokevirtual 59, 3) := by decide +kernel
theorem dX4_add_48 : decode cX4_add 48 = .ok (.bipush 24, 2) := by decide +kernel
theorem dX4_add_50 : decode cX4_add 50 = .ok (.if_icmp .lt 6, 3) := by decide +kernel
theorem dX4_add_53 : decode cX4_add 53 = .ok (.bipush (-3), 2) := by decide +kernel
theorem dX4_add_55 : decode cX4_add 55 = .ok (.ireturn, 1) := by decide +kernel
theorem dX4_add_56 : decode cX4_add 56 = .ok (.aload_n 0, 1) := by decide +kernel
theorem dX4_add_57 : decode cX4_add 57 = .ok (.invokevirtual 63, 3) := by decide +kernel
theorem dX4_add_60 : decode cX4_add 60 = .ok (.aload_n 0, 1) := by decide +kernel
theorem dX4_add_61 : decode cX4_add 61 = .ok (.getfield 14, 3) := by decide +kernel
theorem dX4_add_64 : decode cX4_add 64 = .ok (.iload_n 1, 1) := by decide +kernel
theorem dX4_add_65 : decode cX4_add 65 = .ok (.iload_n 2, 1) := by decide +kernel
theorem dX4_add_66 : decode cX4_add 66 = .ok (.iload_n 3, 1) := by decide +kernel
theorem dX4_add_67 : decode cX4_add 67 = .ok (.invokevirtual 66, 3) := by decide +kernel
theorem dX4_add_70 : decode cX4_add 70 = .ok (.aload_n 0, 1) := by decide +kernel
theorem dX4_add_71 : decode cX4_add 71 = .ok (.getfield 14, 3) := by decide +kernel
theorem dX4_add_74 : decode cX4_add 74 = .ok (.invokevirtual 59, 3) := by decide +kernel
theorem dX4_add_77 : decode cX4_add 77 = .ok (.iconst 1, 1) := by decide +kernel
theorem dX4_add_78 : decode cX4_add 78 = .ok (.isub, 1) := by decide +kernel
theorem dX4_add_79 : decode cX4_add 79 = .ok (.ireturn, 1) := by decide +kernel
set_option maxRecDepth 20000 in
theorem ggX4_addAll_X3_readInto : GoodIn wsX4_addAll wsX3_readInto := goodIn_r _ [8, 9, 10, 11, 12, 13, 14, 15, 16, 17, 18, 19, 20, 7, 21, 22, 23, 24, 25, 26, 27, 28, 29, 30, 31, 32, 33, 34, 35, 36, 37, 38, 39, 40, 41, 42, 43, 44, 45, 46, 47, 48, 49, 50, 51, 52, 111, 112, 113, 114, 115, 116, 117, 118, 119, 120, 121] (by decide +kernel) (by decide +kernel)
set_option maxRecDepth 20000 in
theorem gX4_addAll_X3_readInto : GoodIn wsX4_addAll (wsV RX4 70 RX3 yX3_readInto wsX3_readInto) := goodIn_app (goodIn_of _ (by decide +kernel)) ggX4_addAll_X3_readInto
set_option maxRecDepth 20000 in
theorem ggX4_addAll_X0_size : GoodIn wsX4_addAll wsX0_size := goodIn_r _ [56, 17, 118, 119, 120, 121] (by decide +kernel) (by decide +kernel)
set_option maxRecDepth 20000 in
theorem gX4_addAll_X0_size : GoodIn wsX4_addAll (wsV RX4 59 RX0 yX0_size wsX0_size) := goodIn_app (goodIn_of _ (by decide +kernel)) ggX4_addAll_X0_size
set_option maxRecDepth 20000 in
theorem ggX4_addAll_X4_beginAct : GoodIn wsX4_addAll wsX4_beginAct := goodIn_r _ [61, 62, 3, 63, 64, 65, 66, 67, 68, 69, 70, 71, 72, 73, 74, 75, 76, 77, 15, 78, 79, 13, 14, 16, 17, 80, 81, 82, 83, 84, 54, 55, 56, 85, 86, 87, 88, 42, 89, 90, 91, 92, 93, 94, 95, 96, 43, 97, 98, 99, 100, 44, 101, 39, 40, 41, 103, 104, 105, 106, 107, 108, 109, 110, 122, 123, 118, 119, 120, 121] (by decide +kernel) (by decide +kernel)
set_option maxRecDepth 20000 in
theorem gX4_addAll_X4_beginAct : GoodIn wsX4_addAll (wsV RX4 63 RX4 yX4_beginAct wsX4_beginAct) := goodIn_app (goodIn_of _ (by decide +kernel)) ggX4_addAll_X4_beginAct
set_option maxRecDepth 20000 in
theorem ggX4_addAll_X0_appendEach : GoodIn wsX4_addAll wsX0_appendEach := goodIn_r _ [83, 84, 54, 55, 15, 56, 17, 85, 86, 87, 88, 42, 89, 90, 91, 92, 93, 94, 95, 96, 43, 97, 98, 99, 100, 44, 101, 39, 40, 41, 118, 119, 120, 121] (by decide +kernel) (by decide +kernel)
set_option maxRecDepth 20000 in
theorem gX4_addAll_X0_appendEach : GoodIn wsX4_addAll (wsV RX4 74 RX0 yX0_appendEach wsX0_appendEach) := goodIn_app (goodIn_of _ (by decide +kernel)) ggX4_addAll_X0_appendEach
theorem dX4_addAll_0 : decode cX4_addAll 0 = .ok (.aload_n 0, 1) := by decide +kernel
theorem dX4_addAll_1 : decode cX4_addAll 1 = .ok (.getfield 38, 3) := by decide +kernel
theorem dX4_addAll_4 : decode cX4_addAll 4 = .ok (.aload_n 0, 1) := by decide +kernel
theorem dX4_addAll_5 : decode cX4_addAll 5 = .ok (.getfield 18, 3) := by decide +kernel
theorem dX4_addAll_8 : decode cX4_addAll 8 = .ok (.invokevirtual 70, 3) := by decide +kernel
theorem dX4_addAll_11 : decode cX4_addAll 11 = .ok (.istore_n 1, 1) := by decide +kernel
theorem dX4_addAll_12 : decode cX4_addAll 12 = .ok (.iload_n 1, 1) := by decide +kernel
theorem dX4_addAll_13 : decode cX4_addAll 13 = .ok (.iconst (-1), 1) := by decide +kernel
theorem dX4_addAll_14 : decode cX4_addAll 14 = .ok (.if_icmp .eq 8, 3) := by decide +kernel
theorem dX4_addAll_17 : decode cX4_addAll 17 = .ok (.bipush (-100), 2) := by decide +kernel
theorem dX4_addAll_19 : decode cX4_addAll 19 = .ok (.iload_n 1, 1) := by decide +kernel
theorem dX4_addAll_20 : decode cX4_addAll 20 = .ok (.isub, 1) := by decide +kernel
theorem dX4_addAll_21 : decode cX4_addAll 21 = .ok (.ireturn, 1) := by decide +kernel
theorem dX4_addAll_22 : decode cX4_addAll 22 = .ok (.aload_n 0, 1) := by decide +kernel
theorem dX4_addAll_23 : decode cX4_addAll 23 = .ok (.getfield 14, 3) := by decide +kernel
theorem dX4_addAll_26 : decode cX4_addAll 26 = .ok (.invokevirtual 59, 3) := by decide +kernel
theorem dX4_addAll_29 : decode cX4_addAll 29 = .ok (.aload_n 0, 1) := by decide +kernel
theorem dX4_addAll_30 : decode cX4_addAll 30 = .ok (.getfield 18, 3) := by decide +kernel
theorem dX4_addAll_33 : decode cX4_addAll 33 = .ok (.invokevirtual 59, 3) := by decide +kernel
theorem dX4_addAll_36 : decode cX4_addAll 36 = .ok (.iadd, 1) := by decide +kernel
theorem dX4_addAll_37 : decode cX4_addAll 37 = .ok (.bipush 24, 2) := by decide +kernel
theorem dX4_addAll_39 : decode cX4_addAll 39 = .ok (.if_icmp .le 6, 3) := by decide +kernel
theorem dX4_addAll_42 : decode cX4_addAll 42 = .ok (.bipush (-3), 2) := by decide +kernel
theorem dX4_addAll_44 : decode cX4_addAll 44 = .ok (.ireturn, 1) := by decide +kernel
theorem dX4_addAll_45 : decode cX4_addAll 45 = .ok (.aload_n 0, 1) := by decide +kernel
theorem dX4_addAll_46 : decode cX4_addAll 46 = .ok (.invokevirtual 63, 3) := by decide +kernel
theorem dX4_addAll_49 : decode cX4_addAll 49 = .ok (.aload_n 0, 1) := by decide +kernel
theorem dX4_addAll_50 : decode cX4_addAll 50 = .ok (.getfield 14, 3) := by decide +kernel
theorem dX4_addAll_53 : decode cX4_addAll 53 = .ok (.aload_n 0, 1) := by decide +kernel
theorem dX4_addAll_54 : decode cX4_addAll 54 = .ok (.getfield 18, 3) := by decide +kernel
theorem dX4_addAll_57 : decode cX4_addAll 57 = .ok (.invokevirtual 74, 3) := by decide +kernel
theorem dX4_addAll_60 : decode cX4_addAll 60 = .ok (.aload_n 0, 1) := by decide +kernel
theorem dX4_addAll_61 : decode cX4_addAll 61 = .ok (.getfield 18, 3) := by decide +kernel
theorem dX4_addAll_64 : decode cX4_addAll 64 = .ok (.invokevirtual 59, 3) := by decide +kernel
theorem dX4_addAll_67 : decode cX4_addAll 67 = .ok (.ireturn, 1) := by decide +kernel
set_option maxRecDepth 20000 in
theorem ggX4_remove_X0_has : GoodIn wsX4_remove wsX0_has := goodIn_r _ [6, 7, 8, 75, 76, 77, 78] (by decide +kernel) (by decide +kernel)
set_option maxRecDepth 20000 in
theorem gX4_remove_X0_has : GoodIn wsX4_remove (wsV RX4 78 RX0 yX0_has wsX0_has) := goodIn_app (goodIn_of _ (by decide +kernel)) ggX4_remove_X0_has
set_option maxRecDepth 20000 in
theorem ggX4_remove_X4_beginAct : GoodIn wsX4_remove wsX4_beginAct := goodIn_r _ [13, 14, 1, 15, 16, 17, 18, 19, 20, 21, 22, 23, 24, 25, 26, 27, 28, 29, 5, 30, 31, 32, 33, 34, 7, 35, 36, 37, 38, 39, 40, 41, 42, 43, 44, 45, 46, 8, 47, 3, 4, 6, 48, 49, 50, 51, 52, 53, 54, 55, 56, 57, 58, 59, 60, 61, 67, 68, 69, 70, 71, 72, 73, 74, 79, 80, 75, 76, 77, 78] (by decide +kernel) (by decide +kernel)
set_option maxRecDepth 20000 in
theorem gX4_remove_X4_beginAct : GoodIn wsX4_remove (wsV RX4 63 RX4 yX4_beginAct wsX4_beginAct) := goodIn_app (goodIn_of _ (by decide +kernel)) ggX4_remove_X4_beginAct
set_option maxRecDepth 20000 in
theorem ggX4_remove_X0_drop : GoodIn wsX4_remove wsX0_drop := goodIn_r _ [65, 7, 8, 52, 57, 47, 3, 4, 5, 6, 75, 76, 77, 78] (by decide +kernel) (by decide +kernel)
set_option maxRecDepth 20000 in
theorem gX4_remove_X0_drop : GoodIn wsX4_remove (wsV RX4 81 RX0 yX0_drop wsX0_drop) := goodIn_app (goodIn_of _ (by decide +kernel)) ggX4_remove_X0_drop
set_option maxRecDepth 20000 in
theorem ggX4_remove_X0_size : GoodIn wsX4_remove wsX0_size := goodIn_r _ [42, 7, 75, 76, 77, 78] (by decide +kernel) (by decide +kernel)
set_option maxRecDepth 20000 in
theorem gX4_remove_X0_size : GoodIn wsX4_remove (wsV RX4 59 RX0 yX0_size wsX0_size) := goodIn_app (goodIn_of _ (by decide +kernel)) ggX4_remove_X0_size
theorem dX4_remove_0 : decode cX4_remove 0 = .ok (.aload_n 0, 1) := by decide +kernel
theorem dX4_remove_1 : decode cX4_remove 1 = .ok (.getfield 14, 3) := by decide +kernel
theorem dX4_remove_4 : decode cX4_remove 4 = .ok (.iload_n 1, 1) := by decide +kernel
theorem dX4_remove_5 : decode cX4_remove 5 = .ok (.invokevirtual 78, 3) := by decide +kernel
theorem dX4_remove_8 : decode cX4_remove 8 = .ok (.ifCond .ne 5, 3) := by decide +kernel
theorem dX4_remove_11 : decode cX4_remove 11 = .ok (.iconst (-1), 1) := by decide +kernel
theorem dX4_remove_12 : decode cX4_remove 12 = .ok (.ireturn, 1) := by decide +kernel
theorem dX4_remove_13 : decode cX4_remove 13 = .ok (.aload_n 0, 1) := by decide +kernel
theorem dX4_remove_14 : decode cX4_remove 14 = .ok (.invokevirtual 63, 3) := by decide +kernel
theorem dX4_remove_17 : decode cX4_remove 17 = .ok (.aload_n 0, 1) := by decide +kernel
theorem dX4_remove_18 : decode cX4_remove 18 = .ok (.getfield 14, 3) := by decide +kernel
theorem dX4_remove_21 : decode cX4_remove 21 = .ok (.iload_n 1, 1) := by decide +kernel
theorem dX4_remove_22 : decode cX4_remove 22 = .ok (.invokevirtual 81, 3) := by decide +kernel
theorem dX4_remove_25 : decode cX4_remove 25 = .ok (.aload_n 0, 1) := by decide +kernel
theorem dX4_remove_26 : decode cX4_remove 26 = .ok (.getfield 14, 3) := by decide +kernel
theorem dX4_remove_29 : decode cX4_remove 29 = .ok (.invokevirtual 59, 3) := by decide +kernel
theorem dX4_remove_32 : decode cX4_remove 32 = .ok (.ireturn, 1) := by decide +kernel
set_option maxRecDepth 20000 in
theorem ggX4_move_X0_has : GoodIn wsX4_move wsX0_has := goodIn_r _ [6, 7, 8, 75, 76, 77, 78] (by decide +kernel) (by decide +kernel)
set_option maxRecDepth 20000 in
theorem gX4_move_X0_has : GoodIn wsX4_move (wsV RX4 78 RX0 yX0_has wsX0_has) := goodIn_app (goodIn_of _ (by decide +kernel)) ggX4_move_X0_has
set_option maxRecDepth 20000 in
theorem ggX4_move_X4_beginAct : GoodIn wsX4_move wsX4_beginAct := goodIn_r _ [13, 14, 1, 15, 16, 17, 18, 19, 20, 21, 22, 23, 24, 25, 26, 27, 28, 29, 5, 30, 31, 32, 33, 34, 7, 35, 36, 37, 38, 39, 40, 41, 42, 43, 44, 45, 46, 8, 47, 3, 4, 6, 48, 49, 50, 51, 52, 53, 54, 55, 56, 57, 58, 59, 60, 61, 67, 68, 69, 70, 71, 72, 73, 74, 79, 80, 75, 76, 77, 78] (by decide +kernel) (by decide +kernel)
set_option maxRecDepth 20000 in
theorem gX4_move_X4_beginAct : GoodIn wsX4_move (wsV RX4 63 RX4 yX4_beginAct wsX4_beginAct) := goodIn_app (goodIn_of _ (by decide +kernel)) ggX4_move_X4_beginAct
set_option maxRecDepth 20000 in
theorem ggX4_move_X0_changeSide : GoodIn wsX4_move wsX0_changeSide := goodIn_r _ [65, 8, 47, 3, 4, 5, 6, 7, 75, 76, 77, 78] (by decide +kernel) (by decide +kernel)
set_option maxRecDepth 20000 in
theorem gX4_move_X0_changeSide : GoodIn wsX4_move (wsV RX4 84 RX0 yX0_changeSide wsX0_changeSide) := goodIn_app (goodIn_of _ (by decide +kernel)) ggX4_move_X0_changeSide
set_option maxRecDepth 20000 in
theorem ggX4_move_X0_sideOf : GoodIn wsX4_move wsX0_sideOf := goodIn_r _ [46, 8, 47, 3, 4, 5, 6, 7, 75, 76, 77, 78] (by decide +kernel) (by decide +kernel)
set_option maxRecDepth 20000 in
theorem gX4_move_X0_sideOf : GoodIn wsX4_move (wsV RX4 87 RX0 yX0_sideOf wsX0_sideOf) := goodIn_app (goodIn_of _ (by decide +kernel)) ggX4_move_X0_sideOf
theorem dX4_move_0 : decode cX4_move 0 = .ok (.aload_n 0, 1) := by decide +kernel
theorem dX4_move_1 : decode cX4_move 1 = .ok (.getfield 14, 3) := by decide +kernel
theorem dX4_move_4 : decode cX4_move 4 = .ok (.iload_n 1, 1) := by decide +kernel
theorem dX4_move_5 : decode cX4_move 5 = .ok (.invokevirtual 78, 3) := by decide +kernel
theorem dX4_move_8 : decode cX4_move 8 = .ok (.ifCond .ne 5, 3) := by decide +kernel
theorem dX4_move_11 : decode cX4_move 11 = .ok (.iconst (-1), 1) := by decide +kernel
theorem dX4_move_12 : decode cX4_move 12 = .ok (.ireturn, 1) := by decide +kernel
theorem dX4_move_13 : decode cX4_move 13 = .ok (.aload_n 0, 1) := by decide +kernel
theorem dX4_move_14 : decode cX4_move 14 = .ok (.invokevirtual 63, 3) := by decide +kernel
theorem dX4_move_17 : decode cX4_move 17 = .ok (.aload_n 0, 1) := by decide +kernel
theorem dX4_move_18 : decode cX4_move 18 = .ok (.getfield 14, 3) := by decide +kernel
theorem dX4_move_21 : decode cX4_move 21 = .ok (.iload_n 1, 1) := by decide +kernel
theorem dX4_move_22 : decode cX4_move 22 = .ok (.invokevirtual 84, 3) := by decide +kernel
theorem dX4_move_25 : decode cX4_move 25 = .ok (.aload_n 0, 1) := by decide +kernel
theorem dX4_move_26 : decode cX4_move 26 = .ok (.getfield 14, 3) := by decide +kernel
theorem dX4_move_29 : decode cX4_move 29 = .ok (.iload_n 1, 1) := by decide +kernel
theorem dX4_move_30 : decode cX4_move 30 = .ok (.invokevirtual 87, 3) := by decide +kernel
theorem dX4_move_33 : decode cX4_move 33 = .ok (.ireturn, 1) := by decide +kernel
set_option maxRecDepth 20000 in
theorem ggX4_exchange_X0_size : GoodIn wsX4_exchange wsX0_size := goodIn_r _ [6, 7, 80, 81, 82, 83] (by decide +kernel) (by decide +kernel)
set_option maxRecDepth 20000 in
theorem gX4_exchange_X0_size : GoodIn wsX4_exchange (wsV RX4 59 RX0 yX0_size wsX0_size) := goodIn_app (goodIn_of _ (by decide +kernel)) ggX4_exchange_X0_size
set_option maxRecDepth 20000 in
theorem ggX4_exchange_X4_beginAct : GoodIn wsX4_exchange wsX4_beginAct := goodIn_r _ [12, 13, 1, 14, 15, 16, 17, 18, 19, 20, 21, 22, 23, 24, 25, 26, 27, 28, 5, 29, 30, 31, 32, 33, 7, 34, 35, 36, 37, 38, 3, 4, 6, 39, 40, 41, 42, 43, 44, 45, 46, 47, 48, 49, 50, 51, 52, 53, 54, 55, 56, 57, 58, 59, 60, 61, 72, 73, 74, 75, 76, 77, 78, 79, 84, 85, 80, 81, 82, 83] (by decide +kernel) (by decide +kernel)
set_option maxRecDepth 20000 in
theorem gX4_exchange_X4_beginAct : GoodIn wsX4_exchange (wsV RX4 63 RX4 yX4_beginAct wsX4_beginAct) := goodIn_app (goodIn_of _ (by decide +kernel)) ggX4_exchange_X4_beginAct
set_option maxRecDepth 20000 in
theorem ggX4_exchange_X0_changeSide : GoodIn wsX4_exchange wsX0_changeSide := goodIn_r _ [65, 43, 44, 45, 46, 5, 47, 7, 80, 81, 82, 83] (by decide +kernel) (by decide +kernel)
set_option maxRecDepth 20000 in
theorem gX4_exchange_X0_changeSide : GoodIn wsX4_exchange (wsV RX4 84 RX0 yX0_changeSide wsX0_changeSide) := goodIn_app (goodIn_of _ (by decide +kernel)) ggX4_exchange_X0_changeSide
set_option maxRecDepth 20000 in
theorem ggX4_exchange_X0_sizeOfSide : GoodIn wsX4_exchange wsX0_sizeOfSide := goodIn_r _ [69, 7, 39, 40, 41, 5, 42, 43, 44, 45, 46, 47, 70, 11, 71, 80, 81, 82, 83] (by decide +kernel) (by decide +kernel)
set_option maxRecDepth 20000 in
theorem gX4_exchange_X0_sizeOfSide : GoodIn wsX4_exchange (wsV RX4 91 RX0 yX0_sizeOfSide wsX0_sizeOfSide) := goodIn_app (goodIn_of _ (by decide +kernel)) ggX4_exchange_X0_sizeOfSide
theorem dX4_exchange_0 : decode cX4_exchange 0 = .ok (.aload_n 0, 1) := by decide +kernel
theorem dX4_exchange_1 : decode cX4_exchange 1 = .ok (.getfield 14, 3) := by decide +kernel
theorem dX4_exchange_4 : decode cX4_exchange 4 = .ok (.invokevirtual 59, 3) := by decide +kernel
theorem dX4_exchange_7 : decode cX4_exchange 7 = .ok (.ifCond .ne 6, 3) := by decide +kernel
theorem dX4_exchange_10 : decode cX4_exchange 10 = .ok (.bipush (-5), 2) := by decide +kernel
theorem dX4_exchange_12 : decode cX4_exchange 12 = .ok (.ireturn, 1) := by decide +kernel
theorem dX4_exchange_13 : decode cX4_exchange 13 = .ok (.aload_n 0, 1) := by decide +kernel
theorem dX4_exchange_14 : decode cX4_exchange 14 = .ok (.invokevirtual 63, 3) := by decide +kernel
theorem dX4_exchange_17 : decode cX4_exchange 17 = .ok (.iconst 0, 1) := by decide +kernel
theorem dX4_exchange_18 : decode cX4_exchange 18 = .ok (.istore_n 1, 1) := by decide +kernel
theorem dX4_exchange_19 : decode cX4_exchange 19 = .ok (.iload_n 1, 1) := by decide +kernel
theorem dX4_exchange_20 : decode cX4_exchange 20 = .ok (.aload_n 0, 1) := by decide +kernel
theorem dX4_exchange_21 : decode cX4_exchange 21 = .ok (.getfield 14, 3) := by decide +kernel
theorem dX4_exchange_24 : decode cX4_exchange 24 = .ok (.invokevirtual 59, 3) := by decide +kernel
theorem dX4_exchange_27 : decode cX4_exchange 27 = .ok (.if_icmp .ge 17, 3) := by decide +kernel
theorem dX4_exchange_30 : decode cX4_exchange 30 = .ok (.aload_n 0, 1) := by decide +kernel
theorem dX4_exchange_31 : decode cX4_exchange 31 = .ok (.getfield 14, 3) := by decide +kernel
theorem dX4_exchange_34 : decode cX4_exchange 34 = .ok (.iload_n 1, 1) := by decide +kernel
theorem dX4_exchange_35 : decode cX4_exchange 35 = .ok (.invokevirtual 84, 3) := by decide +kernel
theorem dX4_exchange_38 : decode cX4_exchange 38 = .ok (.iinc 1 1, 3) := by decide +kernel
theorem dX4_exchange_41 : decode cX4_exchange 41 = .ok (.goto (-22), 3) := by decide +kernel
theorem dX4_exchange_44 : decode cX4_exchange 44 = .ok (.aload_n 0, 1) := by decide +kernel
theorem dX4_exchange_45 : decode cX4_exchange 45 = .ok (.getfield 14, 3) := by decide +kernel
theorem dX4_exchange_48 : decode cX4_exchange 48 = .ok (.iconst 0, 1) := by decide +kernel
theorem dX4_exchange_49 : decode cX4_exchange 49 = .ok (.invokevirtual 91, 3) := by decide +kernel
theorem dX4_exchange_52 : decode cX4_exchange 52 = .ok (.ireturn, 1) := by decide +kernel
set_option maxRecDepth 20000 in
theorem ggX4_shrink_X4_currentProof : GoodIn wsX4_shrink wsX4_currentProof := goodIn_r _ [6, 7, 8, 1, 9, 10, 11, 12, 13, 14, 15, 16, 17, 18, 19, 20, 21, 22, 23, 24, 25, 26, 27, 28, 29, 30, 31, 32, 33, 34, 35, 36, 37, 38, 39, 40, 41, 42, 43, 44, 45, 46, 47, 48, 49, 50, 51, 52, 53, 54, 55, 56, 57, 5, 58, 59, 60, 61, 62, 63, 64, 65, 66, 67, 68, 69, 70, 71, 72, 73, 74, 75, 76, 77, 78, 79, 80, 81, 82, 83, 84, 85, 86, 87, 88, 89, 90, 91, 92, 93, 94, 95, 96, 97, 98, 99, 100, 101, 102, 103, 104, 105, 106, 107, 108, 109, 110, 111, 112, 113, 114, 115, 116, 117, 118, 119, 120, 121, 122, 123, 124, 125, 126, 127, 128, 129, 130, 131, 132, 133, 134, 135, 136, 137, 187, 188, 189, 190, 191, 192, 193, 194, 195, 196, 197, 198, 199, 200, 201, 202, 203, 204, 205, 206, 207, 208, 209, 210, 211, 212] (by decide +kernel) (by decide +kernel)
set_option maxRecDepth 20000 in
theorem gX4_shrink_X4_currentProof : GoodIn wsX4_shrink (wsV RX4 94 RX4 yX4_currentProof wsX4_currentProof) := goodIn_app (goodIn_of _ (by decide +kernel)) ggX4_shrink_X4_currentProof
set_option maxRecDepth 20000 in
theorem ggX4_shrink_X2_hasEmptyClause : GoodIn wsX4_shrink wsX2_hasEmptyClause := goodIn_r _ [141, 16, 195, 196, 197, 198, 199, 200, 201, 202, 203, 204, 205, 206, 207, 208] (by decide +kernel) (by decide +kernel)
set_option maxRecDepth 20000 in
theorem gX4_shrink_X2_hasEmptyClause : GoodIn wsX4_shrink (wsV RX4 98 RX2 yX2_hasEmptyClause wsX2_hasEmptyClause) := goodIn_app (goodIn_of _ (by decide +kernel)) ggX4_shrink_X2_hasEmptyClause
set_option maxRecDepth 20000 in
theorem ggX4_shrink_X0_size : GoodIn wsX4_shrink wsX0_size := goodIn_r _ [48, 25, 209, 210, 211, 212] (by decide +kernel) (by decide +kernel)
set_option maxRecDepth 20000 in
theorem gX4_shrink_X0_size : GoodIn wsX4_shrink (wsV RX4 59 RX0 yX0_size wsX0_size) := goodIn_app (goodIn_of _ (by decide +kernel)) ggX4_shrink_X0_size
set_option maxRecDepth 20000 in
theorem ggX4_shrink_X2_neededAmong : GoodIn wsX4_shrink wsX2_neededAmong := goodIn_r _ [146, 14, 126, 127, 128, 12, 129, 78, 98, 99, 100, 101, 147, 5, 148, 195, 196, 197, 198, 199, 200, 201, 202, 203, 204, 205, 206, 207, 208] (by decide +kernel) (by decide +kernel)
set_option maxRecDepth 20000 in
theorem gX4_shrink_X2_neededAmong : GoodIn wsX4_shrink (wsV RX4 102 RX2 yX2_neededAmong wsX2_neededAmong) := goodIn_app (goodIn_of _ (by decide +kernel)) ggX4_shrink_X2_neededAmong
set_option maxRecDepth 20000 in
theorem ggX4_shrink_X4_beginAct : GoodIn wsX4_shrink wsX4_beginAct := goodIn_r _ [152, 153, 1, 7, 154, 155, 156, 157, 158, 159, 160, 161, 162, 163, 164, 165, 166, 167, 23, 168, 169, 170, 171, 172, 25, 173, 174, 175, 176, 177, 46, 47, 48, 26, 27, 28, 29, 30, 31, 32, 33, 34, 35, 36, 37, 38, 39, 40, 41, 42, 43, 44, 178, 179, 180, 181, 187, 188, 189, 190, 191, 192, 193, 194, 213, 214, 209, 210, 211, 212] (by decide +kernel) (by decide +kernel)
set_option maxRecDepth 20000 in
theorem gX4_shrink_X4_beginAct : GoodIn wsX4_shrink (wsV RX4 63 RX4 yX4_beginAct wsX4_beginAct) := goodIn_app (goodIn_of _ (by decide +kernel)) ggX4_shrink_X4_beginAct
set_option maxRecDepth 20000 in
theorem ggX4_shrink_X2_isNeeded : GoodIn wsX4_shrink wsX2_isNeeded := goodIn_r _ [129, 78, 98, 99, 100, 12, 101, 14, 195, 196, 197, 198, 199, 200, 201, 202, 203, 204, 205, 206, 207, 208] (by decide +kernel) (by decide +kernel)
set_option maxRecDepth 20000 in
theorem gX4_shrink_X2_isNeeded : GoodIn wsX4_shrink (wsV RX4 105 RX2 yX2_isNeeded wsX2_isNeeded) := goodIn_app (goodIn_of _ (by decide +kernel)) ggX4_shrink_X2_isNeeded
set_option maxRecDepth 20000 in
theorem ggX4_shrink_X0_drop : GoodIn wsX4_shrink wsX0_drop := goodIn_r _ [186, 25, 30, 39, 44, 31, 32, 33, 23, 34, 209, 210, 211, 212] (by decide +kernel) (by decide +kernel)
set_option maxRecDepth 20000 in
theorem gX4_shrink_X0_drop : GoodIn wsX4_shrink (wsV RX4 81 RX0 yX0_drop wsX0_drop) := goodIn_app (goodIn_of _ (by decide +kernel)) ggX4_shrink_X0_drop
theorem dX4_shrink_0 : decode cX4_shrink 0 = .ok (.aload_n 0, 1) := by decide +kernel
theorem dX4_shrink_1 : decode cX4_shrink 1 = .ok (.invokevirtual 94, 3) := by decide +kernel
theorem dX4_shrink_4 : decode cX4_shrink 4 = .ok (.astore_n 1, 1) := by decide +kernel
theorem dX4_shrink_5 : decode cX4_shrink 5 = .ok (.aload_n 1, 1) := by decide +kernel
theorem dX4_shrink_6 : decode cX4_shrink 6 = .ok (.invokevirtual 98, 3) := by decide +kernel
theorem dX4_shrink_9 : decode cX4_shrink 9 = .ok (.ifCond .ne 6, 3) := by decide +kernel
theorem dX4_shrink_12 : decode cX4_shrink 12 = .ok (.bipush (-4), 2) := by decide +kernel
theorem dX4_shrink_14 : decode cX4_shrink 14 = .ok (.ireturn, 1) := by decide +kernel
theorem dX4_shrink_15 : decode cX4_shrink 15 = .ok (.aload_n 1, 1) := by decide +kernel
theorem dX4_shrink_16 : decode cX4_shrink 16 = .ok (.aload_n 0, 1) := by decide +kernel
theorem dX4_shrink_17 : decode cX4_shrink 17 = .ok (.getfield 14, 3) := by decide +kernel
theorem dX4_shrink_20 : decode cX4_shrink 20 = .ok (.invokevirtual 59, 3) := by decide +kernel
theorem dX4_shrink_23 : decode cX4_shrink 23 = .ok (.invokevirtual 102, 3) := by decide +kernel
theorem dX4_shrink_26 : decode cX4_shrink 26 = .ok (.aload_n 0, 1) := by decide +kernel
theorem dX4_shrink_27 : decode cX4_shrink 27 = .ok (.getfield 14, 3) := by decide +kernel
theorem dX4_shrink_30 : decode cX4_shrink 30 = .ok (.invokevirtual 59, 3) := by decide +kernel
theorem dX4_shrink_33 : decode cX4_shrink 33 = .ok (.if_icmp .ne 6, 3) := by decide +kernel
theorem dX4_shrink_36 : decode cX4_shrink 36 = .ok (.bipush (-5), 2) := by decide +kernel
theorem dX4_shrink_38 : decode cX4_shrink 38 = .ok (.ireturn, 1) := by decide +kernel
theorem dX4_shrink_39 : decode cX4_shrink 39 = .ok (.aload_n 0, 1) := by decide +kernel
theorem dX4_shrink_40 : decode cX4_shrink 40 = .ok (.invokevirtual 63, 3) := by decide +kernel
theorem dX4_shrink_43 : decode cX4_shrink 43 = .ok (.aload_n 0, 1) := by decide +kernel
theorem dX4_shrink_44 : decode cX4_shrink 44 = .ok (.getfield 14, 3) := by decide +kernel
theorem dX4_shrink_47 : decode cX4_shrink 47 = .ok (.invokevirtual 59, 3) := by decide +kernel
theorem dX4_shrink_50 : decode cX4_shrink 50 = .ok (.iconst 1, 1) := by decide +kernel
theorem dX4_shrink_51 : decode cX4_shrink 51 = .ok (.isub, 1) := by decide +kernel
theorem dX4_shrink_52 : decode cX4_shrink 52 = .ok (.istore_n 2, 1) := by decide +kernel
theorem dX4_shrink_53 : decode cX4_shrink 53 = .ok (.iload_n 2, 1) := by decide +kernel
theorem dX4_shrink_54 : decode cX4_shrink 54 = .ok (.ifCond .lt 25, 3) := by decide +kernel
theorem dX4_shrink_57 : decode cX4_shrink 57 = .ok (.aload_n 1, 1) := by decide +kernel
theorem dX4_shrink_58 : decode cX4_shrink 58 = .ok (.iload_n 2, 1) := by decide +kernel
theorem dX4_shrink_59 : decode cX4_shrink 59 = .ok (.invokevirtual 105, 3) := by decide +kernel
theorem dX4_shrink_62 : decode cX4_shrink 62 = .ok (.ifCond .ne 11, 3) := by decide +kernel
theorem dX4_shrink_65 : decode cX4_shrink 65 = .ok (.aload_n 0, 1) := by decide +kernel
theorem dX4_shrink_66 : decode cX4_shrink 66 = .ok (.getfield 14, 3) := by decide +kernel
theorem dX4_shrink_69 : decode cX4_shrink 69 = .ok (.iload_n 2, 1) := by decide +kernel
theorem dX4_shrink_70 : decode cX4_shrink 70 = .ok (.invokevirtual 81, 3) := by decide +kernel
theorem dX4_shrink_73 : decode cX4_shrink 73 = .ok (.iinc 2 (-1), 3) := by decide +kernel
theorem dX4_shrink_76 : decode cX4_shrink 76 = .ok (.goto (-23), 3) := by decide +kernel
theorem dX4_shrink_79 : decode cX4_shrink 79 = .ok (.aload_n 0, 1) := by decide +kernel
theorem dX4_shrink_80 : decode cX4_shrink 80 = .ok (.getfield 14, 3) := by decide +kernel
theorem dX4_shrink_83 : decode cX4_shrink 83 = .ok (.invokevirtual 59, 3) := by decide +kernel
theorem dX4_shrink_86 : decode cX4_shrink 86 = .ok (.ireturn, 1) := by decide +kernel
set_option maxRecDepth 20000 in
theorem ggX4_type_X3_append : GoodIn wsX4_type wsX3_append := goodIn_r _ [6, 7, 8, 21, 22, 23, 24, 25, 26, 27] (by decide +kernel) (by decide +kernel)
set_option maxRecDepth 20000 in
theorem gX4_type_X3_append : GoodIn wsX4_type (wsV RX4 108 RX3 yX3_append wsX3_append) := goodIn_app (goodIn_of _ (by decide +kernel)) ggX4_type_X3_append
set_option maxRecDepth 20000 in
theorem ggX4_type_X3_length : GoodIn wsX4_type wsX3_length := goodIn_r _ [12, 7, 21, 22, 23, 24, 25, 26, 27] (by decide +kernel) (by decide +kernel)
set_option maxRecDepth 20000 in
theorem gX4_type_X3_length : GoodIn wsX4_type (wsV RX4 111 RX3 yX3_length wsX3_length) := goodIn_app (goodIn_of _ (by decide +kernel)) ggX4_type_X3_length
theorem dX4_type_0 : decode cX4_type 0 = .ok (.aload_n 0, 1) := by decide +kernel
theorem dX4_type_1 : decode cX4_type 1 = .ok (.getfield 38, 3) := by decide +kernel
theorem dX4_type_4 : decode cX4_type 4 = .ok (.iload_n 1, 1) := by decide +kernel
theorem dX4_type_5 : decode cX4_type 5 = .ok (.invokevirtual 108, 3) := by decide +kernel
theorem dX4_type_8 : decode cX4_type 8 = .ok (.ifCond .eq 13, 3) := by decide +kernel
theorem dX4_type_11 : decode cX4_type 11 = .ok (.aload_n 0, 1) := by decide +kernel
theorem dX4_type_12 : decode cX4_type 12 = .ok (.getfield 38, 3) := by decide +kernel
theorem dX4_type_15 : decode cX4_type 15 = .ok (.invokevirtual 111, 3) := by decide +kernel
theorem dX4_type_18 : decode cX4_type 18 = .ok (.goto 5, 3) := by decide +kernel
theorem dX4_type_21 : decode cX4_type 21 = .ok (.bipush (-3), 2) := by decide +kernel
theorem dX4_type_23 : decode cX4_type 23 = .ok (.ireturn, 1) := by decide +kernel
set_option maxRecDepth 20000 in
theorem ggX4_clearText_X3_length : GoodIn wsX4_clearText wsX3_length := goodIn_r _ [6, 7, 20, 21, 22, 23, 24, 25, 26] (by decide +kernel) (by decide +kernel)
set_option maxRecDepth 20000 in
theorem gX4_clearText_X3_length : GoodIn wsX4_clearText (wsV RX4 111 RX3 yX3_length wsX3_length) := goodIn_app (goodIn_of _ (by decide +kernel)) ggX4_clearText_X3_length
set_option maxRecDepth 20000 in
theorem ggX4_clearText_X3_clear : GoodIn wsX4_clearText wsX3_clear := goodIn_r _ [11, 7, 20, 21, 22, 23, 24, 25, 26] (by decide +kernel) (by decide +kernel)
set_option maxRecDepth 20000 in
theorem gX4_clearText_X3_clear : GoodIn wsX4_clearText (wsV RX4 114 RX3 yX3_clear wsX3_clear) := goodIn_app (goodIn_of _ (by decide +kernel)) ggX4_clearText_X3_clear
theorem dX4_clearText_0 : decode cX4_clearText 0 = .ok (.aload_n 0, 1) := by decide +kernel
theorem dX4_clearText_1 : decode cX4_clearText 1 = .ok (.getfield 38, 3) := by decide +kernel
theorem dX4_clearText_4 : decode cX4_clearText 4 = .ok (.invokevirtual 111, 3) := by decide +kernel
theorem dX4_clearText_7 : decode cX4_clearText 7 = .ok (.istore_n 1, 1) := by decide +kernel
theorem dX4_clearText_8 : decode cX4_clearText 8 = .ok (.aload_n 0, 1) := by decide +kernel
theorem dX4_clearText_9 : decode cX4_clearText 9 = .ok (.getfield 38, 3) := by decide +kernel
theorem dX4_clearText_12 : decode cX4_clearText 12 = .ok (.invokevirtual 114, 3) := by decide +kernel
theorem dX4_clearText_15 : decode cX4_clearText 15 = .ok (.iload_n 1, 1) := by decide +kernel
theorem dX4_clearText_16 : decode cX4_clearText 16 = .ok (.ireturn, 1) := by decide +kernel
set_option maxRecDepth 20000 in
theorem ggX4_undo_X1_size : GoodIn wsX4_undo wsX1_size := goodIn_r _ [8, 9, 64, 65] (by decide +kernel) (by decide +kernel)
set_option maxRecDepth 20000 in
theorem gX4_undo_X1_size : GoodIn wsX4_undo (wsV RX4 117 RX1 yX1_size wsX1_size) := goodIn_app (goodIn_of _ (by decide +kernel)) ggX4_undo_X1_size
set_option maxRecDepth 20000 in
theorem ggX4_undo_X1_takeLatestInto : GoodIn wsX4_undo wsX1_takeLatestInto := goodIn_r _ [13, 9, 14, 15, 16, 17, 18, 19, 20, 21, 22, 23, 24, 25, 26, 27, 28, 29, 30, 31, 32, 33, 34, 35, 36, 37, 38, 39, 40, 41, 42, 43, 44, 45, 46, 47, 48, 49, 50, 51, 52, 53, 54, 55, 64, 65, 66, 67, 68, 69] (by decide +kernel) (by decide +kernel)
set_option maxRecDepth 20000 in
theorem gX4_undo_X1_takeLatestInto : GoodIn wsX4_undo (wsV RX4 118 RX1 yX1_takeLatestInto wsX1_takeLatestInto) := goodIn_app (goodIn_of _ (by decide +kernel)) ggX4_undo_X1_takeLatestInto
theorem dX4_undo_0 : decode cX4_undo 0 = .ok (.aload_n 0, 1) := by decide +kernel
theorem dX4_undo_1 : decode cX4_undo 1 = .ok (.getfield 31, 3) := by decide +kernel
theorem dX4_undo_4 : decode cX4_undo 4 = .ok (.invokevirtual 117, 3) := by decide +kernel
theorem dX4_undo_7 : decode cX4_undo 7 = .ok (.ifCond .ne 6, 3) := by decide +kernel
theorem dX4_undo_10 : decode cX4_undo 10 = .ok (.bipush (-5), 2) := by decide +kernel
theorem dX4_undo_12 : decode cX4_undo 12 = .ok (.ireturn, 1) := by decide +kernel
theorem dX4_undo_13 : decode cX4_undo 13 = .ok (.aload_n 0, 1) := by decide +kernel
theorem dX4_undo_14 : decode cX4_undo 14 = .ok (.getfield 31, 3) := by decide +kernel
theorem dX4_undo_17 : decode cX4_undo 17 = .ok (.aload_n 0, 1) := by decide +kernel
theorem dX4_undo_18 : decode cX4_undo 18 = .ok (.getfield 14, 3) := by decide +kernel
theorem dX4_undo_21 : decode cX4_undo 21 = .ok (.invokevirtual 118, 3) := by decide +kernel
theorem dX4_undo_24 : decode cX4_undo 24 = .ok (.aload_n 0, 1) := by decide +kernel
theorem dX4_undo_25 : decode cX4_undo 25 = .ok (.iconst 0, 1) := by decide +kernel
theorem dX4_undo_26 : decode cX4_undo 26 = .ok (.putfield 49, 3) := by decide +kernel
theorem dX4_undo_29 : decode cX4_undo 29 = .ok (.aload_n 0, 1) := by decide +kernel
theorem dX4_undo_30 : decode cX4_undo 30 = .ok (.getfield 31, 3) := by decide +kernel
theorem dX4_undo_33 : decode cX4_undo 33 = .ok (.invokevirtual 117, 3) := by decide +kernel
theorem dX4_undo_36 : decode cX4_undo 36 = .ok (.ireturn, 1) := by decide +kernel
set_option maxRecDepth 20000 in
theorem ggX4_keep_X0_becomeLike : GoodIn wsX4_keep wsX0_becomeLike := goodIn_r _ [8, 9, 10, 11, 7, 12, 13, 14, 15, 16, 17, 18, 19, 20, 21, 22, 23, 24, 25, 26, 27, 28, 29, 30, 31, 32, 33, 34, 35, 36, 37, 38, 39, 40, 41, 42, 43, 44, 54, 55, 56, 57] (by decide +kernel) (by decide +kernel)
set_option maxRecDepth 20000 in
theorem gX4_keep_X0_becomeLike : GoodIn wsX4_keep (wsV RX4 121 RX0 yX0_becomeLike wsX0_becomeLike) := goodIn_app (goodIn_of _ (by decide +kernel)) ggX4_keep_X0_becomeLike
set_option maxRecDepth 20000 in
theorem ggX4_keep_X0_size : GoodIn wsX4_keep wsX0_size := goodIn_r _ [21, 13, 54, 55, 56, 57] (by decide +kernel) (by decide +kernel)
set_option maxRecDepth 20000 in
theorem gX4_keep_X0_size : GoodIn wsX4_keep (wsV RX4 59 RX0 yX0_size wsX0_size) := goodIn_app (goodIn_of _ (by decide +kernel)) ggX4_keep_X0_size
theorem dX4_keep_0 : decode cX4_keep 0 = .ok (.aload_n 0, 1) := by decide +kernel
theorem dX4_keep_1 : decode cX4_keep 1 = .ok (.getfield 21, 3) := by decide +kernel
theorem dX4_keep_4 : decode cX4_keep 4 = .ok (.aload_n 0, 1) := by decide +kernel
theorem dX4_keep_5 : decode cX4_keep 5 = .ok (.getfield 14, 3) := by decide +kernel
theorem dX4_keep_8 : decode cX4_keep 8 = .ok (.invokevirtual 121, 3) := by decide +kernel
theorem dX4_keep_11 : decode cX4_keep 11 = .ok (.aload_n 0, 1) := by decide +kernel
theorem dX4_keep_12 : decode cX4_keep 12 = .ok (.iconst 1, 1) := by decide +kernel
theorem dX4_keep_13 : decode cX4_keep 13 = .ok (.putfield 24, 3) := by decide +kernel
theorem dX4_keep_16 : decode cX4_keep 16 = .ok (.aload_n 0, 1) := by decide +kernel
theorem dX4_keep_17 : decode cX4_keep 17 = .ok (.getfield 14, 3) := by decide +kernel
theorem dX4_keep_20 : decode cX4_keep 20 = .ok (.invokevirtual 59, 3) := by decide +kernel
theorem dX4_keep_23 : decode cX4_keep 23 = .ok (.ireturn, 1) := by decide +kernel
set_option maxRecDepth 20000 in
theorem ggX4_restore_X4_beginAct : GoodIn wsX4_restore wsX4_beginAct := goodIn_r _ [8, 9, 2, 10, 11, 12, 13, 14, 15, 16, 17, 18, 19, 20, 21, 22, 23, 24, 25, 26, 27, 28, 29, 30, 31, 32, 33, 34, 35, 36, 37, 38, 39, 40, 41, 42, 43, 44, 45, 46, 47, 48, 49, 50, 51, 52, 53, 54, 55, 56, 57, 58, 59, 60, 61, 62, 65, 66, 67, 68, 69, 70, 71, 72, 73, 74, 75, 76, 77, 78] (by decide +kernel) (by decide +kernel)
set_option maxRecDepth 20000 in
theorem gX4_restore_X4_beginAct : GoodIn wsX4_restore (wsV RX4 63 RX4 yX4_beginAct wsX4_beginAct) := goodIn_app (goodIn_of _ (by decide +kernel)) ggX4_restore_X4_beginAct
set_option maxRecDepth 20000 in
theorem ggX4_restore_X0_becomeLike : GoodIn wsX4_restore wsX0_becomeLike := goodIn_r _ [26, 27, 28, 29, 25, 30, 31, 32, 33, 34, 35, 36, 37, 38, 39, 40, 41, 42, 43, 44, 45, 46, 47, 48, 49, 50, 51, 52, 53, 54, 55, 56, 57, 58, 59, 60, 61, 62, 75, 76, 77, 78] (by decide +kernel) (by decide +kernel)
set_option maxRecDepth 20000 in
theorem gX4_restore_X0_becomeLike : GoodIn wsX4_restore (wsV RX4 121 RX0 yX0_becomeLike wsX0_becomeLike) := goodIn_app (goodIn_of _ (by decide +kernel)) ggX4_restore_X0_becomeLike
set_option maxRecDepth 20000 in
theorem ggX4_restore_X0_size : GoodIn wsX4_restore wsX0_size := goodIn_r _ [39, 31, 75, 76, 77, 78] (by decide +kernel) (by decide +kernel)
set_option maxRecDepth 20000 in
theorem gX4_restore_X0_size : GoodIn wsX4_restore (wsV RX4 59 RX0 yX0_size wsX0_size) := goodIn_app (goodIn_of _ (by decide +kernel)) ggX4_restore_X0_size
theorem dX4_restore_0 : decode cX4_restore 0 = .ok (.aload_n 0, 1) := by decide +kernel
theorem dX4_restore_1 : decode cX4_restore 1 = .ok (.getfield 24, 3) := by decide +kernel
theorem dX4_restore_4 : decode cX4_restore 4 = .ok (.ifCond .ne 6, 3) := by decide +kernel
theorem dX4_restore_7 : decode cX4_restore 7 = .ok (.bipush (-5), 2) := by decide +kernel
theorem dX4_restore_9 : decode cX4_restore 9 = .ok (.ireturn, 1) := by decide +kernel
theorem dX4_restore_10 : decode cX4_restore 10 = .ok (.aload_n 0, 1) := by decide +kernel
theorem dX4_restore_11 : decode cX4_restore 11 = .ok (.invokevirtual 63, 3) := by decide +kernel
theorem dX4_restore_14 : decode cX4_restore 14 = .ok (.aload_n 0, 1) := by decide +kernel
theorem dX4_restore_15 : decode cX4_restore 15 = .ok (.getfield 14, 3) := by decide +kernel
theorem dX4_restore_18 : decode cX4_restore 18 = .ok (.aload_n 0, 1) := by decide +kernel
theorem dX4_restore_19 : decode cX4_restore 19 = .ok (.getfield 21, 3) := by decide +kernel
theorem dX4_restore_22 : decode cX4_restore 22 = .ok (.invokevirtual 121, 3) := by decide +kernel
theorem dX4_restore_25 : decode cX4_restore 25 = .ok (.aload_n 0, 1) := by decide +kernel
theorem dX4_restore_26 : decode cX4_restore 26 = .ok (.getfield 14, 3) := by decide +kernel
theorem dX4_restore_29 : decode cX4_restore 29 = .ok (.invokevirtual 59, 3) := by decide +kernel
theorem dX4_restore_32 : decode cX4_restore 32 = .ok (.ireturn, 1) := by decide +kernel
set_option maxRecDepth 20000 in
theorem ggX4_clause_X0_has : GoodIn wsX4_clause wsX0_has := goodIn_r _ [6, 7, 8, 165, 166, 167, 168] (by decide +kernel) (by decide +kernel)
set_option maxRecDepth 20000 in
theorem gX4_clause_X0_has : GoodIn wsX4_clause (wsV RX4 78 RX0 yX0_has wsX0_has) := goodIn_app (goodIn_of _ (by decide +kernel)) ggX4_clause_X0_has
set_option maxRecDepth 20000 in
theorem ggX4_clause_X0_sideOf : GoodIn wsX4_clause wsX0_sideOf := goodIn_r _ [12, 8, 13, 3, 4, 5, 6, 7, 165, 166, 167, 168] (by decide +kernel) (by decide +kernel)
set_option maxRecDepth 20000 in
theorem gX4_clause_X0_sideOf : GoodIn wsX4_clause (wsV RX4 87 RX0 yX0_sideOf wsX0_sideOf) := goodIn_app (goodIn_of _ (by decide +kernel)) ggX4_clause_X0_sideOf
set_option maxRecDepth 20000 in
theorem ggX4_clause_X0_signsOf : GoodIn wsX4_clause wsX0_signsOf := goodIn_r _ [17, 18, 13, 3, 4, 5, 6, 7, 8, 165, 166, 167, 168] (by decide +kernel) (by decide +kernel)
set_option maxRecDepth 20000 in
theorem gX4_clause_X0_signsOf : GoodIn wsX4_clause (wsV RX4 124 RX0 yX0_signsOf wsX0_signsOf) := goodIn_app (goodIn_of _ (by decide +kernel)) ggX4_clause_X0_signsOf
set_option maxRecDepth 20000 in
theorem ggX4_clause_X0_oppositesOf : GoodIn wsX4_clause wsX0_oppositesOf := goodIn_r _ [22, 23, 13, 3, 4, 5, 6, 7, 8, 165, 166, 167, 168] (by decide +kernel) (by decide +kernel)
set_option maxRecDepth 20000 in
theorem gX4_clause_X0_oppositesOf : GoodIn wsX4_clause (wsV RX4 127 RX0 yX0_oppositesOf wsX0_oppositesOf) := goodIn_app (goodIn_of _ (by decide +kernel)) ggX4_clause_X0_oppositesOf
set_option maxRecDepth 20000 in
theorem ggX4_clause_X0_worldsOf : GoodIn wsX4_clause wsX0_worldsOf := goodIn_r _ [27, 28, 15, 16, 5, 17, 18, 13, 3, 4, 6, 7, 8, 29, 20, 21, 22, 23, 30, 31, 32, 33, 34, 35, 36, 37, 38, 39, 40, 165, 166, 167, 168] (by decide +kernel) (by decide +kernel)
set_option maxRecDepth 20000 in
theorem gX4_clause_X0_worldsOf : GoodIn wsX4_clause (wsV RX4 130 RX0 yX0_worldsOf wsX0_worldsOf) := goodIn_app (goodIn_of _ (by decide +kernel)) ggX4_clause_X0_worldsOf
set_option maxRecDepth 20000 in
theorem ggX4_clause_J13_bitCount_95d88 : GoodIn wsX4_clause wsJ13_bitCount_95d88 := goodIn_r _ [44, 45, 46, 47] (by decide +kernel) (by decide +kernel)
set_option maxRecDepth 20000 in
theorem gX4_clause_J13_bitCount_95d88 : GoodIn wsX4_clause (va_wsS RX4 134 yJ13_bitCount_95d88 wsJ13_bitCount_95d88) := goodIn_app (goodIn_of _ (by decide +kernel)) ggX4_clause_J13_bitCount_95d88
set_option maxRecDepth 20000 in
theorem ggX4_clause_X4_currentProof : GoodIn wsX4_clause wsX4_currentProof := goodIn_r _ [51, 52, 53, 1, 54, 55, 56, 57, 58, 59, 60, 61, 62, 63, 64, 65, 66, 67, 5, 68, 7, 69, 10, 11, 12, 8, 13, 3, 4, 6, 28, 15, 16, 17, 18, 29, 20, 21, 22, 23, 70, 71, 72, 73, 74, 75, 76, 77, 78, 79, 80, 81, 30, 31, 32, 33, 34, 35, 36, 37, 38, 39, 40, 82, 83, 84, 85, 86, 87, 88, 89, 90, 91, 92, 93, 94, 95, 96, 97, 98, 99, 100, 101, 102, 103, 104, 105, 106, 107, 108, 109, 110, 111, 112, 113, 114, 115, 116, 117, 118, 119, 120, 121, 122, 123, 124, 125, 126, 127, 128, 129, 130, 131, 132, 133, 134, 135, 136, 137, 138, 139, 140, 141, 142, 143, 144, 145, 146, 147, 148, 149, 150, 151, 152, 157, 158, 159, 160, 161, 162, 163, 164, 169, 170, 171, 172, 173, 174, 175, 176, 177, 178, 179, 180, 181, 182, 165, 166, 167, 168] (by decide +kernel) (by decide +kernel)
set_option maxRecDepth 20000 in
theorem gX4_clause_X4_currentProof : GoodIn wsX4_clause (wsV RX4 94 RX4 yX4_currentProof wsX4_currentProof) := goodIn_app (goodIn_of _ (by decide +kernel)) ggX4_clause_X4_currentProof
set_option maxRecDepth 20000 in
theorem ggX4_clause_X2_isNeeded : GoodIn wsX4_clause wsX2_isNeeded := goodIn_r _ [144, 93, 113, 114, 115, 57, 116, 59, 169, 170, 171, 172, 173, 174, 175, 176, 177, 178, 179, 180, 181, 182] (by decide +kernel) (by decide +kernel)
set_option maxRecDepth 20000 in
theorem gX4_clause_X2_isNeeded : GoodIn wsX4_clause (wsV RX4 105 RX2 yX2_isNeeded wsX2_isNeeded) := goodIn_app (goodIn_of _ (by decide +kernel)) ggX4_clause_X2_isNeeded
set_option maxRecDepth 20000 in
theorem ggX4_clause_X4_asNumber : GoodIn wsX4_clause wsX4_asNumber := goodIn_r _ [156] (by decide +kernel) (by decide +kernel)
set_option maxRecDepth 20000 in
theorem gX4_clause_X4_asNumber : GoodIn wsX4_clause (va_wsS RX4 140 yX4_asNumber wsX4_asNumber) := goodIn_app (goodIn_of _ (by decide +kernel)) ggX4_clause_X4_asNumber
theorem dX4_clause_0 : decode cX4_clause 0 = .ok (.aload_n 0, 1) := by decide +kernel
theorem dX4_clause_1 : decode cX4_clause 1 = .ok (.getfield 14, 3) := by decide +kernel
theorem dX4_clause_4 : decode cX4_clause 4 = .ok (.iload_n 1, 1) := by decide +kernel
theorem dX4_clause_5 : decode cX4_clause 5 = .ok (.invokevirtual 78, 3) := by decide +kernel
theorem dX4_clause_8 : decode cX4_clause 8 = .ok (.ifCond .ne 5, 3) := by decide +kernel
theorem dX4_clause_11 : decode cX4_clause 11 = .ok (.iconst (-1), 1) := by decide +kernel
theorem dX4_clause_12 : decode cX4_clause 12 = .ok (.ireturn, 1) := by decide +kernel
theorem dX4_clause_13 : decode cX4_clause 13 = .ok (.iload_n 2, 1) := by decide +kernel
theorem dX4_clause_14 : decode cX4_clause 14 = .ok (.tableswitch 85 0 4 #[34, 43, 52, 61, 73], 34) := by decide +kernel
theorem dX4_clause_48 : decode cX4_clause 48 = .ok (.aload_n 0, 1) := by decide +kernel
theorem dX4_clause_49 : decode cX4_clause 49 = .ok (.getfield 14, 3) := by decide +kernel
theorem dX4_clause_52 : decode cX4_clause 52 = .ok (.iload_n 1, 1) := by decide +kernel
theorem dX4_clause_53 : decode cX4_clause 53 = .ok (.invokevirtual 87, 3) := by decide +kernel
theorem dX4_clause_56 : decode cX4_clause 56 = .ok (.ireturn, 1) := by decide +kernel
theorem dX4_clause_57 : decode cX4_clause 57 = .ok (.aload_n 0, 1) := by decide +kernel
theorem dX4_clause_58 : decode cX4_clause 58 = .ok (.getfield 14, 3) := by decide +kernel
theorem dX4_clause_61 : decode cX4_clause 61 = .ok (.iload_n 1, 1) := by decide +kernel
theorem dX4_clause_62 : decode cX4_clause 62 = .ok (.invokevirtual 124, 3) := by decide +kernel
theorem dX4_clause_65 : decode cX4_clause 65 = .ok (.ireturn, 1) := by decide +kernel
theorem dX4_clause_66 : decode cX4_clause 66 = .ok (.aload_n 0, 1) := by decide +kernel
theorem dX4_clause_67 : decode cX4_clause 67 = .ok (.getfield 14, 3) := by decide +kernel
theorem dX4_clause_70 : decode cX4_clause 70 = .ok (.iload_n 1, 1) := by decide +kernel
theorem dX4_clause_71 : decode cX4_clause 71 = .ok (.invokevirtual 127, 3) := by decide +kernel
theorem dX4_clause_74 : decode cX4_clause 74 = .ok (.ireturn, 1) := by decide +kernel
theorem dX4_clause_75 : decode cX4_clause 75 = .ok (.aload_n 0, 1) := by decide +kernel
theorem dX4_clause_76 : decode cX4_clause 76 = .ok (.getfield 14, 3) := by decide +kernel
theorem dX4_clause_79 : decode cX4_clause 79 = .ok (.iload_n 1, 1) := by decide +kernel
theorem dX4_clause_80 : decode cX4_clause 80 = .ok (.invokevirtual 130, 3) := by decide +kernel
theorem dX4_clause_83 : decode cX4_clause 83 = .ok (.invokestatic 134, 3) := by decide +kernel
theorem dX4_clause_86 : decode cX4_clause 86 = .ok (.ireturn, 1) := by decide +kernel
theorem dX4_clause_87 : decode cX4_clause 87 = .ok (.aload_n 0, 1) := by decide +kernel
theorem dX4_clause_88 : decode cX4_clause 88 = .ok (.invokevirtual 94, 3) := by decide +kernel
theorem dX4_clause_91 : decode cX4_clause 91 = .ok (.iload_n 1, 1) := by decide +kernel
theorem dX4_clause_92 : decode cX4_clause 92 = .ok (.invokevirtual 105, 3) := by decide +kernel
theorem dX4_clause_95 : decode cX4_clause 95 = .ok (.invokestatic 140, 3) := by decide +kernel
theorem dX4_clause_98 : decode cX4_clause 98 = .ok (.ireturn, 1) := by decide +kernel
theorem dX4_clause_99 : decode cX4_clause 99 = .ok (.bipush (-2), 2) := by decide +kernel
theorem dX4_clause_101 : decode cX4_clause 101 = .ok (.ireturn, 1) := by decide +kernel
set_option maxRecDepth 20000 in
theorem ggX4_side_X4_isZeroOrOne : GoodIn wsX4_side wsX4_isZeroOrOne := goodIn_r _ [5] (by decide +kernel) (by decide +kernel)
set_option maxRecDepth 20000 in
theorem gX4_side_X4_isZeroOrOne : GoodIn wsX4_side (va_wsS RX4 52 yX4_isZeroOrOne wsX4_isZeroOrOne) := goodIn_app (goodIn_of _ (by decide +kernel)) ggX4_side_X4_isZeroOrOne
set_option maxRecDepth 20000 in
theorem ggX4_side_X0_sizeOfSide : GoodIn wsX4_side wsX0_sizeOfSide := goodIn_r _ [10, 11, 12, 13, 14, 9, 15, 16, 17, 18, 19, 20, 21, 4, 22, 74, 75, 76, 77] (by decide +kernel) (by decide +kernel)
set_option maxRecDepth 20000 in
theorem gX4_side_X0_sizeOfSide : GoodIn wsX4_side (wsV RX4 91 RX0 yX0_sizeOfSide wsX0_sizeOfSide) := goodIn_app (goodIn_of _ (by decide +kernel)) ggX4_side_X0_sizeOfSide
set_option maxRecDepth 20000 in
theorem ggX4_side_X0_signsKnownTo : GoodIn wsX4_side wsX0_signsKnownTo := goodIn_r _ [26, 11, 12, 13, 14, 9, 15, 16, 17, 18, 19, 20, 27, 28, 29, 30, 31, 32, 33, 34, 35, 36, 74, 75, 76, 77] (by decide +kernel) (by decide +kernel)
set_option maxRecDepth 20000 in
theorem gX4_side_X0_signsKnownTo : GoodIn wsX4_side (wsV RX4 144 RX0 yX0_signsKnownTo wsX0_signsKnownTo) := goodIn_app (goodIn_of _ (by decide +kernel)) ggX4_side_X0_signsKnownTo
set_option maxRecDepth 20000 in
theorem ggX4_side_X0_worldsOfSide : GoodIn wsX4_side wsX0_worldsOfSide := goodIn_r _ [40, 41, 11, 12, 13, 14, 9, 15, 16, 17, 18, 19, 20, 42, 43, 44, 45, 27, 28, 29, 30, 31, 32, 33, 34, 35, 36, 46, 4, 47, 48, 49, 50, 51, 52, 53, 54, 55, 74, 75, 76, 77] (by decide +kernel) (by decide +kernel)
set_option maxRecDepth 20000 in
theorem gX4_side_X0_worldsOfSide : GoodIn wsX4_side (wsV RX4 147 RX0 yX0_worldsOfSide wsX0_worldsOfSide) := goodIn_app (goodIn_of _ (by decide +kernel)) ggX4_side_X0_worldsOfSide
set_option maxRecDepth 20000 in
theorem ggX4_side_J13_bitCount_95d88 : GoodIn wsX4_side wsJ13_bitCount_95d88 := goodIn_r _ [59, 60, 61, 62] (by decide +kernel) (by decide +kernel)
set_option maxRecDepth 20000 in
theorem gX4_side_J13_bitCount_95d88 : GoodIn wsX4_side (va_wsS RX4 134 yJ13_bitCount_95d88 wsJ13_bitCount_95d88) := goodIn_app (goodIn_of _ (by decide +kernel)) ggX4_side_J13_bitCount_95d88
set_option maxRecDepth 20000 in
theorem ggX4_side_X4_lowestWorld : GoodIn wsX4_side wsX4_lowestWorld := goodIn_r _ [65, 56, 57, 58, 59, 60, 61, 62] (by decide +kernel) (by decide +kernel)
set_option maxRecDepth 20000 in
theorem gX4_side_X4_lowestWorld : GoodIn wsX4_side (va_wsS RX4 150 yX4_lowestWorld wsX4_lowestWorld) := goodIn_app (goodIn_of _ (by decide +kernel)) ggX4_side_X4_lowestWorld
theorem dX4_side_0 : decode cX4_side 0 = .ok (.iload_n 1, 1) := by decide +kernel
theorem dX4_side_1 : decode cX4_side 1 = .ok (.invokestatic 52, 3) := by decide +kernel
theorem dX4_side_4 : decode cX4_side 4 = .ok (.ifCond .ne 5, 3) := by decide +kernel
theorem dX4_side_7 : decode cX4_side 7 = .ok (.iconst (-1), 1) := by decide +kernel
theorem dX4_side_8 : decode cX4_side 8 = .ok (.ireturn, 1) := by decide +kernel
theorem dX4_side_9 : decode cX4_side 9 = .ok (.iload_n 2, 1) := by decide +kernel
theorem dX4_side_10 : decode cX4_side 10 = .ok (.tableswitch 72 0 3 #[30, 39, 48, 60], 30) := by decide +kernel
theorem dX4_side_40 : decode cX4_side 40 = .ok (.aload_n 0, 1) := by decide +kernel
theorem dX4_side_41 : decode cX4_side 41 = .ok (.getfield 14, 3) := by decide +kernel
theorem dX4_side_44 : decode cX4_side 44 = .ok (.iload_n 1, 1) := by decide +kernel
theorem dX4_side_45 : decode cX4_side 45 = .ok (.invokevirtual 91, 3) := by decide +kernel
theorem dX4_side_48 : decode cX4_side 48 = .ok (.ireturn, 1) := by decide +kernel
theorem dX4_side_49 : decode cX4_side 49 = .ok (.aload_n 0, 1) := by decide +kernel
theorem dX4_side_50 : decode cX4_side 50 = .ok (.getfield 14, 3) := by decide +kernel
theorem dX4_side_53 : decode cX4_side 53 = .ok (.iload_n 1, 1) := by decide +kernel
theorem dX4_side_54 : decode cX4_side 54 = .ok (.invokevirtual 144, 3) := by decide +kernel
theorem dX4_side_57 : decode cX4_side 57 = .ok (.ireturn, 1) := by decide +kernel
theorem dX4_side_58 : decode cX4_side 58 = .ok (.aload_n 0, 1) := by decide +kernel
theorem dX4_side_59 : decode cX4_side 59 = .ok (.getfield 14, 3) := by decide +kernel
theorem dX4_side_62 : decode cX4_side 62 = .ok (.iload_n 1, 1) := by decide +kernel
theorem dX4_side_63 : decode cX4_side 63 = .ok (.invokevirtual 147, 3) := by decide +kernel
theorem dX4_side_66 : decode cX4_side 66 = .ok (.invokestatic 134, 3) := by decide +kernel
theorem dX4_side_69 : decode cX4_side 69 = .ok (.ireturn, 1) := by decide +kernel
theorem dX4_side_70 : decode cX4_side 70 = .ok (.aload_n 0, 1) := by decide +kernel
theorem dX4_side_71 : decode cX4_side 71 = .ok (.getfield 14, 3) := by decide +kernel
theorem dX4_side_74 : decode cX4_side 74 = .ok (.iload_n 1, 1) := by decide +kernel
theorem dX4_side_75 : decode cX4_side 75 = .ok (.invokevirtual 147, 3) := by decide +kernel
theorem dX4_side_78 : decode cX4_side 78 = .ok (.invokestatic 150, 3) := by decide +kernel
theorem dX4_side_81 : decode cX4_side 81 = .ok (.ireturn, 1) := by decide +kernel
theorem dX4_side_82 : decode cX4_side 82 = .ok (.bipush (-2), 2) := by decide +kernel
theorem dX4_side_84 : decode cX4_side 84 = .ok (.ireturn, 1) := by decide +kernel
set_option maxRecDepth 20000 in
theorem ggX4_step_X4_currentProof : GoodIn wsX4_step wsX4_currentProof := goodIn_r _ [5, 6, 7, 8, 9, 10, 11, 12, 13, 14, 15, 16, 17, 18, 19, 20, 21, 22, 23, 24, 25, 26, 27, 28, 29, 30, 31, 32, 33, 34, 35, 36, 37, 38, 39, 40, 41, 42, 43, 44, 45, 46, 47, 48, 49, 50, 51, 52, 53, 54, 55, 56, 57, 4, 58, 59, 60, 61, 62, 63, 64, 65, 66, 67, 68, 69, 70, 71, 72, 73, 74, 75, 76, 77, 78, 79, 80, 81, 82, 83, 84, 85, 86, 87, 88, 89, 90, 91, 92, 93, 94, 95, 96, 97, 98, 99, 100, 101, 102, 103, 104, 105, 106, 107, 108, 109, 110, 111, 112, 113, 114, 115, 116, 117, 118, 119, 120, 121, 122, 123, 124, 125, 126, 127, 128, 129, 130, 131, 132, 133, 134, 135, 136, 137, 155, 156, 157, 158, 159, 160, 161, 162, 163, 164, 165, 166, 167, 168, 169, 170, 171, 172, 173, 174, 175, 176, 177, 178, 179, 180] (by decide +kernel) (by decide +kernel)
set_option maxRecDepth 20000 in
theorem gX4_step_X4_currentProof : GoodIn wsX4_step (wsV RX4 94 RX4 yX4_currentProof wsX4_currentProof) := goodIn_app (goodIn_of _ (by decide +kernel)) ggX4_step_X4_currentProof
set_option maxRecDepth 20000 in
theorem ggX4_step_X2_isKnown : GoodIn wsX4_step wsX2_isKnown := goodIn_r _ [141, 15, 163, 164, 165, 166, 167, 168, 169, 170, 171, 172, 173, 174, 175, 176] (by decide +kernel) (by decide +kernel)
set_option maxRecDepth 20000 in
theorem gX4_step_X2_isKnown : GoodIn wsX4_step (wsV RX4 153 RX2 yX2_isKnown wsX2_isKnown) := goodIn_app (goodIn_of _ (by decide +kernel)) ggX4_step_X2_isKnown
set_option maxRecDepth 20000 in
theorem ggX4_step_X2_has : GoodIn wsX4_step wsX2_has := goodIn_r _ [101, 14, 163, 164, 165, 166, 167, 168, 169, 170, 171, 172, 173, 174, 175, 176] (by decide +kernel) (by decide +kernel)
set_option maxRecDepth 20000 in
theorem gX4_step_X2_has : GoodIn wsX4_step (wsV RX4 156 RX2 yX2_has wsX2_has) := goodIn_app (goodIn_of _ (by decide +kernel)) ggX4_step_X2_has
set_option maxRecDepth 20000 in
theorem ggX4_step_X2_signsOf : GoodIn wsX4_step wsX2_signsOf := goodIn_r _ [97, 71, 98, 99, 100, 12, 101, 14, 163, 164, 165, 166, 167, 168, 169, 170, 171, 172, 173, 174, 175, 176] (by decide +kernel) (by decide +kernel)
set_option maxRecDepth 20000 in
theorem gX4_step_X2_signsOf : GoodIn wsX4_step (wsV RX4 157 RX2 yX2_signsOf wsX2_signsOf) := goodIn_app (goodIn_of _ (by decide +kernel)) ggX4_step_X2_signsOf
set_option maxRecDepth 20000 in
theorem ggX4_step_X2_oppositesOf : GoodIn wsX4_step wsX2_oppositesOf := goodIn_r _ [105, 72, 98, 99, 100, 12, 101, 14, 163, 164, 165, 166, 167, 168, 169, 170, 171, 172, 173, 174, 175, 176] (by decide +kernel) (by decide +kernel)
set_option maxRecDepth 20000 in
theorem gX4_step_X2_oppositesOf : GoodIn wsX4_step (wsV RX4 158 RX2 yX2_oppositesOf wsX2_oppositesOf) := goodIn_app (goodIn_of _ (by decide +kernel)) ggX4_step_X2_oppositesOf
set_option maxRecDepth 20000 in
theorem ggX4_step_X2_firstParentOf : GoodIn wsX4_step wsX2_firstParentOf := goodIn_r _ [133, 73, 98, 99, 100, 12, 101, 14, 163, 164, 165, 166, 167, 168, 169, 170, 171, 172, 173, 174, 175, 176] (by decide +kernel) (by decide +kernel)
set_option maxRecDepth 20000 in
theorem gX4_step_X2_firstParentOf : GoodIn wsX4_step (wsV RX4 159 RX2 yX2_firstParentOf wsX2_firstParentOf) := goodIn_app (goodIn_of _ (by decide +kernel)) ggX4_step_X2_firstParentOf
set_option maxRecDepth 20000 in
theorem ggX4_step_X2_secondParentOf : GoodIn wsX4_step wsX2_secondParentOf := goodIn_r _ [137, 74, 98, 99, 100, 12, 101, 14, 163, 164, 165, 166, 167, 168, 169, 170, 171, 172, 173, 174, 175, 176] (by decide +kernel) (by decide +kernel)
set_option maxRecDepth 20000 in
theorem gX4_step_X2_secondParentOf : GoodIn wsX4_step (wsV RX4 162 RX2 yX2_secondParentOf wsX2_secondParentOf) := goodIn_app (goodIn_of _ (by decide +kernel)) ggX4_step_X2_secondParentOf
set_option maxRecDepth 20000 in
theorem ggX4_step_X2_pivotOf : GoodIn wsX4_step wsX2_pivotOf := goodIn_r _ [150, 75, 98, 99, 100, 12, 101, 14, 163, 164, 165, 166, 167, 168, 169, 170, 171, 172, 173, 174, 175, 176] (by decide +kernel) (by decide +kernel)
set_option maxRecDepth 20000 in
theorem gX4_step_X2_pivotOf : GoodIn wsX4_step (wsV RX4 165 RX2 yX2_pivotOf wsX2_pivotOf) := goodIn_app (goodIn_of _ (by decide +kernel)) ggX4_step_X2_pivotOf
set_option maxRecDepth 20000 in
theorem ggX4_step_X2_isNeeded : GoodIn wsX4_step wsX2_isNeeded := goodIn_r _ [129, 78, 98, 99, 100, 12, 101, 14, 163, 164, 165, 166, 167, 168, 169, 170, 171, 172, 173, 174, 175, 176] (by decide +kernel) (by decide +kernel)
set_option maxRecDepth 20000 in
theorem gX4_step_X2_isNeeded : GoodIn wsX4_step (wsV RX4 105 RX2 yX2_isNeeded wsX2_isNeeded) := goodIn_app (goodIn_of _ (by decide +kernel)) ggX4_step_X2_isNeeded
set_option maxRecDepth 20000 in
theorem ggX4_step_X4_asNumber : GoodIn wsX4_step wsX4_asNumber := goodIn_r _ [154] (by decide +kernel) (by decide +kernel)
set_option maxRecDepth 20000 in
theorem gX4_step_X4_asNumber : GoodIn wsX4_step (va_wsS RX4 140 yX4_asNumber wsX4_asNumber) := goodIn_app (goodIn_of _ (by decide +kernel)) ggX4_step_X4_asNumber
theorem dX4_step_0 : decode cX4_step 0 = .ok (.aload_n 0, 1) := by decide +kernel
theorem dX4_step_1 : decode cX4_step 1 = .ok (.invokevirtual 94, 3) := by decide +kernel
theorem dX4_step_4 : decode cX4_step 4 = .ok (.astore_n 3, 1) := by decide +kernel
theorem dX4_step_5 : decode cX4_step 5 = .ok (.aload_n 3, 1) := by decide +kernel
theorem dX4_step_6 : decode cX4_step 6 = .ok (.invokevirtual 153, 3) := by decide +kernel
theorem dX4_step_9 : decode cX4_step 9 = .ok (.ifCond .ne 6, 3) := by decide +kernel
theorem dX4_step_12 : decode cX4_step 12 = .ok (.bipush (-4), 2) := by decide +kernel
theorem dX4_step_14 : decode cX4_step 14 = .ok (.ireturn, 1) := by decide +kernel
theorem dX4_step_15 : decode cX4_step 15 = .ok (.aload_n 3, 1) := by decide +kernel
theorem dX4_step_16 : decode cX4_step 16 = .ok (.iload_n 1, 1) := by decide +kernel
theorem dX4_step_17 : decode cX4_step 17 = .ok (.invokevirtual 156, 3) := by decide +kernel
theorem dX4_step_20 : decode cX4_step 20 = .ok (.ifCond .ne 5, 3) := by decide +kernel
theorem dX4_step_23 : decode cX4_step 23 = .ok (.iconst (-1), 1) := by decide +kernel
theorem dX4_step_24 : decode cX4_step 24 = .ok (.ireturn, 1) := by decide +kernel
theorem dX4_step_25 : decode cX4_step 25 = .ok (.iload_n 2, 1) := by decide +kernel
theorem dX4_step_26 : decode cX4_step 26 = .ok (.tableswitch 77 0 5 #[38, 44, 50, 56, 62, 68], 38) := by decide +kernel
theorem dX4_step_64 : decode cX4_step 64 = .ok (.aload_n 3, 1) := by decide +kernel
theorem dX4_step_65 : decode cX4_step 65 = .ok (.iload_n 1, 1) := by decide +kernel
theorem dX4_step_66 : decode cX4_step 66 = .ok (.invokevirtual 157, 3) := by decide +kernel
theorem dX4_step_69 : decode cX4_step 69 = .ok (.ireturn, 1) := by decide +kernel
theorem dX4_step_70 : decode cX4_step 70 = .ok (.aload_n 3, 1) := by decide +kernel
theorem dX4_step_71 : decode cX4_step 71 = .ok (.iload_n 1, 1) := by decide +kernel
theorem dX4_step_72 : decode cX4_step 72 = .ok (.invokevirtual 158, 3) := by decide +kernel
theorem dX4_step_75 : decode cX4_step 75 = .ok (.ireturn, 1) := by decide +kernel
theorem dX4_step_76 : decode cX4_step 76 = .ok (.aload_n 3, 1) := by decide +kernel
theorem dX4_step_77 : decode cX4_step 77 = .ok (.iload_n 1, 1) := by decide +kernel
theorem dX4_step_78 : decode cX4_step 78 = .ok (.invokevirtual 159, 3) := by decide +kernel
theorem dX4_step_81 : decode cX4_step 81 = .ok (.ireturn, 1) := by decide +kernel
theorem dX4_step_82 : decode cX4_step 82 = .ok (.aload_n 3, 1) := by decide +kernel
theorem dX4_step_83 : decode cX4_step 83 = .ok (.iload_n 1, 1) := by decide +kernel
theorem dX4_step_84 : decode cX4_step 84 = .ok (.invokevirtual 162, 3) := by decide +kernel
theorem dX4_step_87 : decode cX4_step 87 = .ok (.ireturn, 1) := by decide +kernel
theorem dX4_step_88 : decode cX4_step 88 = .ok (.aload_n 3, 1) := by decide +kernel
theorem dX4_step_89 : decode cX4_step 89 = .ok (.iload_n 1, 1) := by decide +kernel
theorem dX4_step_90 : decode cX4_step 90 = .ok (.invokevirtual 165, 3) := by decide +kernel
theorem dX4_step_93 : decode cX4_step 93 = .ok (.ireturn, 1) := by decide +kernel
theorem dX4_step_94 : decode cX4_step 94 = .ok (.aload_n 3, 1) := by decide +kernel
theorem dX4_step_95 : decode cX4_step 95 = .ok (.iload_n 1, 1) := by decide +kernel
theorem dX4_step_96 : decode cX4_step 96 = .ok (.invokevirtual 105, 3) := by decide +kernel
theorem dX4_step_99 : decode cX4_step 99 = .ok (.invokestatic 140, 3) := by decide +kernel
theorem dX4_step_102 : decode cX4_step 102 = .ok (.ireturn, 1) := by decide +kernel
theorem dX4_step_103 : decode cX4_step 103 = .ok (.bipush (-2), 2) := by decide +kernel
theorem dX4_step_105 : decode cX4_step 105 = .ok (.ireturn, 1) := by decide +kernel
set_option maxRecDepth 20000 in
theorem ggX4_partial_X4_currentProof : GoodIn wsX4_partial wsX4_currentProof := goodIn_r _ [5, 6, 7, 8, 9, 10, 11, 12, 13, 14, 15, 16, 17, 18, 19, 20, 21, 22, 23, 24, 25, 26, 27, 28, 29, 30, 31, 32, 33, 34, 35, 36, 37, 38, 39, 40, 41, 42, 43, 44, 45, 46, 47, 48, 49, 50, 51, 52, 53, 54, 55, 56, 57, 4, 58, 59, 60, 61, 62, 63, 64, 65, 66, 67, 68, 69, 70, 71, 72, 73, 74, 75, 76, 77, 78, 79, 80, 81, 82, 83, 84, 85, 86, 87, 88, 89, 90, 91, 92, 93, 94, 95, 96, 97, 98, 99, 100, 101, 102, 103, 104, 105, 106, 107, 108, 109, 110, 111, 112, 113, 114, 115, 116, 117, 118, 119, 120, 121, 122, 123, 124, 125, 126, 127, 128, 129, 130, 131, 132, 133, 134, 135, 136, 137, 147, 148, 149, 150, 151, 152, 153, 154, 155, 156, 157, 158, 159, 160, 161, 162, 163, 164, 165, 166, 167, 168, 169, 170, 171, 172] (by decide +kernel) (by decide +kernel)
set_option maxRecDepth 20000 in
theorem gX4_partial_X4_currentProof : GoodIn wsX4_partial (wsV RX4 94 RX4 yX4_currentProof wsX4_currentProof) := goodIn_app (goodIn_of _ (by decide +kernel)) ggX4_partial_X4_currentProof
set_option maxRecDepth 20000 in
theorem ggX4_partial_X2_hasEmptyClause : GoodIn wsX4_partial wsX2_hasEmptyClause := goodIn_r _ [141, 16, 155, 156, 157, 158, 159, 160, 161, 162, 163, 164, 165, 166, 167, 168] (by decide +kernel) (by decide +kernel)
set_option maxRecDepth 20000 in
theorem gX4_partial_X2_hasEmptyClause : GoodIn wsX4_partial (wsV RX4 98 RX2 yX2_hasEmptyClause wsX2_hasEmptyClause) := goodIn_app (goodIn_of _ (by decide +kernel)) ggX4_partial_X2_hasEmptyClause
set_option maxRecDepth 20000 in
theorem ggX4_partial_X2_has : GoodIn wsX4_partial wsX2_has := goodIn_r _ [101, 14, 155, 156, 157, 158, 159, 160, 161, 162, 163, 164, 165, 166, 167, 168] (by decide +kernel) (by decide +kernel)
set_option maxRecDepth 20000 in
theorem gX4_partial_X2_has : GoodIn wsX4_partial (wsV RX4 156 RX2 yX2_has wsX2_has) := goodIn_app (goodIn_of _ (by decide +kernel)) ggX4_partial_X2_has
set_option maxRecDepth 20000 in
theorem ggX4_partial_X4_isZeroOrOne : GoodIn wsX4_partial wsX4_isZeroOrOne := goodIn_r _ [145] (by decide +kernel) (by decide +kernel)
set_option maxRecDepth 20000 in
theorem gX4_partial_X4_isZeroOrOne : GoodIn wsX4_partial (va_wsS RX4 52 yX4_isZeroOrOne wsX4_isZeroOrOne) := goodIn_app (goodIn_of _ (by decide +kernel)) ggX4_partial_X4_isZeroOrOne
set_option maxRecDepth 20000 in
theorem ggX4_partial_X2_partialClaim : GoodIn wsX4_partial wsX2_partialClaim := goodIn_r _ [113, 76, 77, 98, 99, 100, 12, 101, 14, 155, 156, 157, 158, 159, 160, 161, 162, 163, 164, 165, 166, 167, 168] (by decide +kernel) (by decide +kernel)
set_option maxRecDepth 20000 in
theorem gX4_partial_X2_partialClaim : GoodIn wsX4_partial (wsV RX4 168 RX2 yX2_partialClaim wsX2_partialClaim) := goodIn_app (goodIn_of _ (by decide +kernel)) ggX4_partial_X2_partialClaim
theorem dX4_partial_0 : decode cX4_partial 0 = .ok (.aload_n 0, 1) := by decide +kernel
theorem dX4_partial_1 : decode cX4_partial 1 = .ok (.invokevirtual 94, 3) := by decide +kernel
theorem dX4_partial_4 : decode cX4_partial 4 = .ok (.astore 4, 2) := by decide +kernel
theorem dX4_partial_6 : decode cX4_partial 6 = .ok (.aload 4, 2) := by decide +kernel
theorem dX4_partial_8 : decode cX4_partial 8 = .ok (.invokevirtual 98, 3) := by decide +kernel
theorem dX4_partial_11 : decode cX4_partial 11 = .ok (.ifCond .ne 6, 3) := by decide +kernel
theorem dX4_partial_14 : decode cX4_partial 14 = .ok (.bipush (-4), 2) := by decide +kernel
theorem dX4_partial_16 : decode cX4_partial 16 = .ok (.ireturn, 1) := by decide +kernel
theorem dX4_partial_17 : decode cX4_partial 17 = .ok (.aload 4, 2) := by decide +kernel
theorem dX4_partial_19 : decode cX4_partial 19 = .ok (.iload_n 1, 1) := by decide +kernel
theorem dX4_partial_20 : decode cX4_partial 20 = .ok (.invokevirtual 156, 3) := by decide +kernel
theorem dX4_partial_23 : decode cX4_partial 23 = .ok (.ifCond .ne 5, 3) := by decide +kernel
theorem dX4_partial_26 : decode cX4_partial 26 = .ok (.iconst (-1), 1) := by decide +kernel
theorem dX4_partial_27 : decode cX4_partial 27 = .ok (.ireturn, 1) := by decide +kernel
theorem dX4_partial_28 : decode cX4_partial 28 = .ok (.iload_n 2, 1) := by decide +kernel
theorem dX4_partial_29 : decode cX4_partial 29 = .ok (.invokestatic 52, 3) := by decide +kernel
theorem dX4_partial_32 : decode cX4_partial 32 = .ok (.ifCond .eq 13, 3) := by decide +kernel
theorem dX4_partial_35 : decode cX4_partial 35 = .ok (.iload_n 3, 1) := by decide +kernel
theorem dX4_partial_36 : decode cX4_partial 36 = .ok (.ifCond .lt 9, 3) := by decide +kernel
theorem dX4_partial_39 : decode cX4_partial 39 = .ok (.iload_n 3, 1) := by decide +kernel
theorem dX4_partial_40 : decode cX4_partial 40 = .ok (.bipush 64, 2) := by decide +kernel
theorem dX4_partial_42 : decode cX4_partial 42 = .ok (.if_icmp .lt 6, 3) := by decide +kernel
theorem dX4_partial_45 : decode cX4_partial 45 = .ok (.bipush (-2), 2) := by decide +kernel
theorem dX4_partial_47 : decode cX4_partial 47 = .ok (.ireturn, 1) := by decide +kernel
theorem dX4_partial_48 : decode cX4_partial 48 = .ok (.aload 4, 2) := by decide +kernel
theorem dX4_partial_50 : decode cX4_partial 50 = .ok (.iload_n 1, 1) := by decide +kernel
theorem dX4_partial_51 : decode cX4_partial 51 = .ok (.iload_n 2, 1) := by decide +kernel
theorem dX4_partial_52 : decode cX4_partial 52 = .ok (.invokevirtual 168, 3) := by decide +kernel
theorem dX4_partial_55 : decode cX4_partial 55 = .ok (.iload_n 3, 1) := by decide +kernel
theorem dX4_partial_56 : decode cX4_partial 56 = .ok (.lushr, 1) := by decide +kernel
theorem dX4_partial_57 : decode cX4_partial 57 = .ok (.lconst 1, 1) := by decide +kernel
theorem dX4_partial_58 : decode cX4_partial 58 = .ok (.land, 1) := by decide +kernel
theorem dX4_partial_59 : decode cX4_partial 59 = .ok (.l2i, 1) := by decide +kernel
theorem dX4_partial_60 : decode cX4_partial 60 = .ok (.ireturn, 1) := by decide +kernel
set_option maxRecDepth 20000 in
theorem ggX4_middle_X4_isZeroOrOne : GoodIn wsX4_middle wsX4_isZeroOrOne := goodIn_r _ [4] (by decide +kernel) (by decide +kernel)
set_option maxRecDepth 20000 in
theorem gX4_middle_X4_isZeroOrOne : GoodIn wsX4_middle (va_wsS RX4 52 yX4_isZeroOrOne wsX4_isZeroOrOne) := goodIn_app (goodIn_of _ (by decide +kernel)) ggX4_middle_X4_isZeroOrOne
set_option maxRecDepth 20000 in
theorem ggX4_middle_X4_currentProof : GoodIn wsX4_middle wsX4_currentProof := goodIn_r _ [8, 9, 10, 11, 12, 13, 14, 15, 16, 17, 18, 19, 20, 21, 22, 23, 24, 25, 26, 27, 28, 29, 30, 31, 32, 33, 34, 35, 36, 37, 38, 39, 40, 41, 42, 43, 44, 45, 46, 47, 48, 49, 50, 51, 52, 53, 54, 55, 56, 57, 58, 59, 60, 3, 61, 62, 63, 64, 65, 66, 67, 68, 69, 70, 71, 72, 73, 74, 75, 76, 77, 78, 79, 80, 81, 82, 83, 84, 85, 86, 87, 88, 89, 90, 91, 92, 93, 94, 95, 96, 97, 98, 99, 100, 101, 102, 103, 104, 105, 106, 107, 108, 109, 110, 111, 112, 113, 114, 115, 116, 117, 118, 119, 120, 121, 122, 123, 124, 125, 126, 127, 128, 129, 130, 131, 132, 133, 134, 135, 136, 137, 138, 139, 140, 152, 153, 154, 155, 156, 157, 158, 159, 160, 161, 162, 163, 164, 165, 166, 167, 168, 169, 170, 171, 172, 173, 174, 175, 176, 177] (by decide +kernel) (by decide +kernel)
set_option maxRecDepth 20000 in
theorem gX4_middle_X4_currentProof : GoodIn wsX4_middle (wsV RX4 94 RX4 yX4_currentProof wsX4_currentProof) := goodIn_app (goodIn_of _ (by decide +kernel)) ggX4_middle_X4_currentProof
set_option maxRecDepth 20000 in
theorem ggX4_middle_X2_hasEmptyClause : GoodIn wsX4_middle wsX2_hasEmptyClause := goodIn_r _ [144, 19, 160, 161, 162, 163, 164, 165, 166, 167, 168, 169, 170, 171, 172, 173] (by decide +kernel) (by decide +kernel)
set_option maxRecDepth 20000 in
theorem gX4_middle_X2_hasEmptyClause : GoodIn wsX4_middle (wsV RX4 98 RX2 yX2_hasEmptyClause wsX2_hasEmptyClause) := goodIn_app (goodIn_of _ (by decide +kernel)) ggX4_middle_X2_hasEmptyClause
set_option maxRecDepth 20000 in
theorem ggX4_middle_X2_middleClaim : GoodIn wsX4_middle wsX2_middleClaim := goodIn_r _ [148, 17, 113, 114, 115, 15, 116, 79, 80, 101, 102, 103, 104, 160, 161, 162, 163, 164, 165, 166, 167, 168, 169, 170, 171, 172, 173] (by decide +kernel) (by decide +kernel)
set_option maxRecDepth 20000 in
theorem gX4_middle_X2_middleClaim : GoodIn wsX4_middle (wsV RX4 172 RX2 yX2_middleClaim wsX2_middleClaim) := goodIn_app (goodIn_of _ (by decide +kernel)) ggX4_middle_X2_middleClaim
set_option maxRecDepth 20000 in
theorem ggX4_middle_X4_halfOf : GoodIn wsX4_middle wsX4_halfOf := goodIn_r _ [151] (by decide +kernel) (by decide +kernel)
set_option maxRecDepth 20000 in
theorem gX4_middle_X4_halfOf : GoodIn wsX4_middle (va_wsS RX4 175 yX4_halfOf wsX4_halfOf) := goodIn_app (goodIn_of _ (by decide +kernel)) ggX4_middle_X4_halfOf
theorem dX4_middle_0 : decode cX4_middle 0 = .ok (.iload_n 1, 1) := by decide +kernel
theorem dX4_middle_1 : decode cX4_middle 1 = .ok (.invokestatic 52, 3) := by decide +kernel
theorem dX4_middle_4 : decode cX4_middle 4 = .ok (.ifCond .eq 10, 3) := by decide +kernel
theorem dX4_middle_7 : decode cX4_middle 7 = .ok (.iload_n 2, 1) := by decide +kernel
theorem dX4_middle_8 : decode cX4_middle 8 = .ok (.invokestatic 52, 3) := by decide +kernel
theorem dX4_middle_11 : decode cX4_middle 11 = .ok (.ifCond .ne 5, 3) := by decide +kernel
theorem dX4_middle_14 : decode cX4_middle 14 = .ok (.iconst 0, 1) := by decide +kernel
theorem dX4_middle_15 : decode cX4_middle 15 = .ok (.ireturn, 1) := by decide +kernel
theorem dX4_middle_16 : decode cX4_middle 16 = .ok (.aload_n 0, 1) := by decide +kernel
theorem dX4_middle_17 : decode cX4_middle 17 = .ok (.invokevirtual 94, 3) := by decide +kernel
theorem dX4_middle_20 : decode cX4_middle 20 = .ok (.astore_n 3, 1) := by decide +kernel
theorem dX4_middle_21 : decode cX4_middle 21 = .ok (.aload_n 3, 1) := by decide +kernel
theorem dX4_middle_22 : decode cX4_middle 22 = .ok (.invokevirtual 98, 3) := by decide +kernel
theorem dX4_middle_25 : decode cX4_middle 25 = .ok (.ifCond .eq 15, 3) := by decide +kernel
theorem dX4_middle_28 : decode cX4_middle 28 = .ok (.aload_n 3, 1) := by decide +kernel
theorem dX4_middle_29 : decode cX4_middle 29 = .ok (.iload_n 1, 1) := by decide +kernel
theorem dX4_middle_30 : decode cX4_middle 30 = .ok (.invokevirtual 172, 3) := by decide +kernel
theorem dX4_middle_33 : decode cX4_middle 33 = .ok (.iload_n 2, 1) := by decide +kernel
theorem dX4_middle_34 : decode cX4_middle 34 = .ok (.invokestatic 175, 3) := by decide +kernel
theorem dX4_middle_37 : decode cX4_middle 37 = .ok (.goto 4, 3) := by decide +kernel
theorem dX4_middle_40 : decode cX4_middle 40 = .ok (.iconst 0, 1) := by decide +kernel
theorem dX4_middle_41 : decode cX4_middle 41 = .ok (.ireturn, 1) := by decide +kernel
set_option maxRecDepth 20000 in
theorem ggX4_outermost_X4_isZeroOrOne : GoodIn wsX4_outermost wsX4_isZeroOrOne := goodIn_r _ [6] (by decide +kernel) (by decide +kernel)
set_option maxRecDepth 20000 in
theorem gX4_outermost_X4_isZeroOrOne : GoodIn wsX4_outermost (va_wsS RX4 52 yX4_isZeroOrOne wsX4_isZeroOrOne) := goodIn_app (goodIn_of _ (by decide +kernel)) ggX4_outermost_X4_isZeroOrOne
set_option maxRecDepth 20000 in
theorem ggX4_outermost_X0_clash : GoodIn wsX4_outermost wsX0_clash := goodIn_r _ [11, 12, 13, 14, 10, 15, 16, 17, 18, 19, 20, 21, 22, 23, 24, 25, 26, 27, 28, 29, 30, 31, 32, 33, 34, 35, 36, 37, 38, 39, 40, 41, 42, 43, 44, 45, 5, 46, 2, 47, 48, 49, 50, 51, 52, 53, 77, 78, 79, 80] (by decide +kernel) (by decide +kernel)
set_option maxRecDepth 20000 in
theorem gX4_outermost_X0_clash : GoodIn wsX4_outermost (wsV RX4 179 RX0 yX0_clash wsX0_clash) := goodIn_app (goodIn_of _ (by decide +kernel)) ggX4_outermost_X0_clash
set_option maxRecDepth 20000 in
theorem ggX4_outermost_X0_sharedSigns : GoodIn wsX4_outermost wsX0_sharedSigns := goodIn_r _ [57, 58, 59, 60, 10, 61, 21, 22, 23, 24, 25, 26, 27, 28, 29, 30, 35, 36, 37, 38, 39, 40, 41, 42, 43, 44, 77, 78, 79, 80] (by decide +kernel) (by decide +kernel)
set_option maxRecDepth 20000 in
theorem gX4_outermost_X0_sharedSigns : GoodIn wsX4_outermost (wsV RX4 182 RX0 yX0_sharedSigns wsX0_sharedSigns) := goodIn_app (goodIn_of _ (by decide +kernel)) ggX4_outermost_X0_sharedSigns
set_option maxRecDepth 20000 in
theorem ggX4_outermost_X0_worldsOfSide : GoodIn wsX4_outermost wsX0_worldsOfSide := goodIn_r _ [19, 20, 21, 22, 23, 24, 10, 25, 26, 27, 28, 29, 30, 31, 32, 33, 34, 35, 36, 37, 38, 39, 40, 41, 42, 43, 44, 45, 5, 46, 2, 47, 48, 49, 50, 51, 52, 53, 77, 78, 79, 80] (by decide +kernel) (by decide +kernel)
set_option maxRecDepth 20000 in
theorem gX4_outermost_X0_worldsOfSide : GoodIn wsX4_outermost (wsV RX4 147 RX0 yX0_worldsOfSide wsX0_worldsOfSide) := goodIn_app (goodIn_of _ (by decide +kernel)) ggX4_outermost_X0_worldsOfSide
set_option maxRecDepth 20000 in
theorem ggX4_outermost_X4_spread : GoodIn wsX4_outermost wsX4_spread := goodIn_r _ [65, 2, 47, 48, 5, 49, 50, 51, 52, 53] (by decide +kernel) (by decide +kernel)
set_option maxRecDepth 20000 in
theorem gX4_outermost_X4_spread : GoodIn wsX4_outermost (va_wsS RX4 185 yX4_spread wsX4_spread) := goodIn_app (goodIn_of _ (by decide +kernel)) ggX4_outermost_X4_spread
set_option maxRecDepth 20000 in
theorem ggX4_outermost_X4_halfOf : GoodIn wsX4_outermost wsX4_halfOf := goodIn_r _ [68] (by decide +kernel) (by decide +kernel)
set_option maxRecDepth 20000 in
theorem gX4_outermost_X4_halfOf : GoodIn wsX4_outermost (va_wsS RX4 175 yX4_halfOf wsX4_halfOf) := goodIn_app (goodIn_of _ (by decide +kernel)) ggX4_outermost_X4_halfOf
theorem dX4_outermost_0 : decode cX4_outermost 0 = .ok (.iload_n 2, 1) := by decide +kernel
theorem dX4_outermost_1 : decode cX4_outermost 1 = .ok (.invokestatic 52, 3) := by decide +kernel
theorem dX4_outermost_4 : decode cX4_outermost 4 = .ok (.ifCond .eq 13, 3) := by decide +kernel
theorem dX4_outermost_7 : decode cX4_outermost 7 = .ok (.aload_n 0, 1) := by decide +kernel
theorem dX4_outermost_8 : decode cX4_outermost 8 = .ok (.getfield 14, 3) := by decide +kernel
theorem dX4_outermost_11 : decode cX4_outermost 11 = .ok (.invokevirtual 179, 3) := by decide +kernel
theorem dX4_outermost_14 : decode cX4_outermost 14 = .ok (.ifCond .ne 5, 3) := by decide +kernel
theorem dX4_outermost_17 : decode cX4_outermost 17 = .ok (.iconst 0, 1) := by decide +kernel
theorem dX4_outermost_18 : decode cX4_outermost 18 = .ok (.ireturn, 1) := by decide +kernel
theorem dX4_outermost_19 : decode cX4_outermost 19 = .ok (.aload_n 0, 1) := by decide +kernel
theorem dX4_outermost_20 : decode cX4_outermost 20 = .ok (.getfield 14, 3) := by decide +kernel
theorem dX4_outermost_23 : decode cX4_outermost 23 = .ok (.invokevirtual 182, 3) := by decide +kernel
theorem dX4_outermost_26 : decode cX4_outermost 26 = .ok (.istore_n 3, 1) := by decide +kernel
theorem dX4_outermost_27 : decode cX4_outermost 27 = .ok (.iload_n 1, 1) := by decide +kernel
theorem dX4_outermost_28 : decode cX4_outermost 28 = .ok (.ifCond .eq 22, 3) := by decide +kernel
theorem dX4_outermost_31 : decode cX4_outermost 31 = .ok (.aload_n 0, 1) := by decide +kernel
theorem dX4_outermost_32 : decode cX4_outermost 32 = .ok (.getfield 14, 3) := by decide +kernel
theorem dX4_outermost_35 : decode cX4_outermost 35 = .ok (.iconst 1, 1) := by decide +kernel
theorem dX4_outermost_36 : decode cX4_outermost 36 = .ok (.invokevirtual 147, 3) := by decide +kernel
theorem dX4_outermost_39 : decode cX4_outermost 39 = .ok (.iload_n 3, 1) := by decide +kernel
theorem dX4_outermost_40 : decode cX4_outermost 40 = .ok (.invokestatic 185, 3) := by decide +kernel
theorem dX4_outermost_43 : decode cX4_outermost 43 = .ok (.ldc2_w 189, 3) := by decide +kernel
theorem dX4_outermost_46 : decode cX4_outermost 46 = .ok (.lxor, 1) := by decide +kernel
theorem dX4_outermost_47 : decode cX4_outermost 47 = .ok (.goto 15, 3) := by decide +kernel
theorem dX4_outermost_50 : decode cX4_outermost 50 = .ok (.aload_n 0, 1) := by decide +kernel
theorem dX4_outermost_51 : decode cX4_outermost 51 = .ok (.getfield 14, 3) := by decide +kernel
theorem dX4_outermost_54 : decode cX4_outermost 54 = .ok (.iconst 0, 1) := by decide +kernel
theorem dX4_outermost_55 : decode cX4_outermost 55 = .ok (.invokevirtual 147, 3) := by decide +kernel
theorem dX4_outermost_58 : decode cX4_outermost 58 = .ok (.iload_n 3, 1) := by decide +kernel
theorem dX4_outermost_59 : decode cX4_outermost 59 = .ok (.invokestatic 185, 3) := by decide +kernel
theorem dX4_outermost_62 : decode cX4_outermost 62 = .ok (.lstore 4, 2) := by decide +kernel
theorem dX4_outermost_64 : decode cX4_outermost 64 = .ok (.lload 4, 2) := by decide +kernel
theorem dX4_outermost_66 : decode cX4_outermost 66 = .ok (.iload_n 2, 1) := by decide +kernel
theorem dX4_outermost_67 : decode cX4_outermost 67 = .ok (.invokestatic 175, 3) := by decide +kernel
theorem dX4_outermost_70 : decode cX4_outermost 70 = .ok (.ireturn, 1) := by decide +kernel
set_option maxRecDepth 20000 in
theorem ggX4_test_X0_worldsOfSide : GoodIn wsX4_test wsX0_worldsOfSide := goodIn_r _ [8, 9, 10, 11, 12, 13, 7, 14, 15, 16, 17, 18, 19, 20, 21, 22, 23, 24, 25, 26, 27, 28, 29, 30, 31, 32, 33, 34, 35, 36, 3, 37, 38, 39, 40, 41, 42, 43, 63, 64, 65, 66] (by decide +kernel) (by decide +kernel)
set_option maxRecDepth 20000 in
theorem gX4_test_X0_worldsOfSide : GoodIn wsX4_test (wsV RX4 147 RX0 yX0_worldsOfSide wsX0_worldsOfSide) := goodIn_app (goodIn_of _ (by decide +kernel)) ggX4_test_X0_worldsOfSide
set_option maxRecDepth 20000 in
theorem ggX4_test_X0_sharedSigns : GoodIn wsX4_test wsX0_sharedSigns := goodIn_r _ [47, 48, 49, 50, 7, 51, 10, 11, 12, 13, 14, 15, 16, 17, 18, 19, 24, 25, 26, 27, 28, 29, 30, 31, 32, 33, 63, 64, 65, 66] (by decide +kernel) (by decide +kernel)
set_option maxRecDepth 20000 in
theorem gX4_test_X0_sharedSigns : GoodIn wsX4_test (wsV RX4 182 RX0 yX0_sharedSigns wsX0_sharedSigns) := goodIn_app (goodIn_of _ (by decide +kernel)) ggX4_test_X0_sharedSigns
set_option maxRecDepth 20000 in
theorem ggX4_test_X4_spread : GoodIn wsX4_test wsX4_spread := goodIn_r _ [54, 3, 37, 38, 35, 39, 40, 41, 42, 43] (by decide +kernel) (by decide +kernel)
set_option maxRecDepth 20000 in
theorem gX4_test_X4_spread : GoodIn wsX4_test (va_wsS RX4 185 yX4_spread wsX4_spread) := goodIn_app (goodIn_of _ (by decide +kernel)) ggX4_test_X4_spread
theorem dX4_test_0 : decode cX4_test 0 = .ok (.iload_n 2, 1) := by decide +kernel
theorem dX4_test_1 : decode cX4_test 1 = .ok (.i2l, 1) := by decide +kernel
theorem dX4_test_2 : decode cX4_test 2 = .ok (.bipush 32, 2) := by decide +kernel
theorem dX4_test_4 : decode cX4_test 4 = .ok (.lshl, 1) := by decide +kernel
theorem dX4_test_5 : decode cX4_test 5 = .ok (.iload_n 1, 1) := by decide +kernel
theorem dX4_test_6 : decode cX4_test 6 = .ok (.i2l, 1) := by decide +kernel
theorem dX4_test_7 : decode cX4_test 7 = .ok (.ldc2_w 191, 3) := by decide +kernel
theorem dX4_test_10 : decode cX4_test 10 = .ok (.land, 1) := by decide +kernel
theorem dX4_test_11 : decode cX4_test 11 = .ok (.lor, 1) := by decide +kernel
theorem dX4_test_12 : decode cX4_test 12 = .ok (.lstore_n 3, 1) := by decide +kernel
theorem dX4_test_13 : decode cX4_test 13 = .ok (.aload_n 0, 1) := by decide +kernel
theorem dX4_test_14 : decode cX4_test 14 = .ok (.getfield 14, 3) := by decide +kernel
theorem dX4_test_17 : decode cX4_test 17 = .ok (.iconst 0, 1) := by decide +kernel
theorem dX4_test_18 : decode cX4_test 18 = .ok (.invokevirtual 147, 3) := by decide +kernel
theorem dX4_test_21 : decode cX4_test 21 = .ok (.lload_n 3, 1) := by decide +kernel
theorem dX4_test_22 : decode cX4_test 22 = .ok (.ldc2_w 189, 3) := by decide +kernel
theorem dX4_test_25 : decode cX4_test 25 = .ok (.lxor, 1) := by decide +kernel
theorem dX4_test_26 : decode cX4_test 26 = .ok (.land, 1) := by decide +kernel
theorem dX4_test_27 : decode cX4_test 27 = .ok (.lconst 0, 1) := by decide +kernel
theorem dX4_test_28 : decode cX4_test 28 = .ok (.lcmp, 1) := by decide +kernel
theorem dX4_test_29 : decode cX4_test 29 = .ok (.ifCond .eq 5, 3) := by decide +kernel
theorem dX4_test_32 : decode cX4_test 32 = .ok (.iconst 1, 1) := by decide +kernel
theorem dX4_test_33 : decode cX4_test 33 = .ok (.ireturn, 1) := by decide +kernel
theorem dX4_test_34 : decode cX4_test 34 = .ok (.aload_n 0, 1) := by decide +kernel
theorem dX4_test_35 : decode cX4_test 35 = .ok (.getfield 14, 3) := by decide +kernel
theorem dX4_test_38 : decode cX4_test 38 = .ok (.iconst 1, 1) := by decide +kernel
theorem dX4_test_39 : decode cX4_test 39 = .ok (.invokevirtual 147, 3) := by decide +kernel
theorem dX4_test_42 : decode cX4_test 42 = .ok (.lload_n 3, 1) := by decide +kernel
theorem dX4_test_43 : decode cX4_test 43 = .ok (.land, 1) := by decide +kernel
theorem dX4_test_44 : decode cX4_test 44 = .ok (.lconst 0, 1) := by decide +kernel
theorem dX4_test_45 : decode cX4_test 45 = .ok (.lcmp, 1) := by decide +kernel
theorem dX4_test_46 : decode cX4_test 46 = .ok (.ifCond .eq 5, 3) := by decide +kernel
theorem dX4_test_49 : decode cX4_test 49 = .ok (.iconst 2, 1) := by decide +kernel
theorem dX4_test_50 : decode cX4_test 50 = .ok (.ireturn, 1) := by decide +kernel
theorem dX4_test_51 : decode cX4_test 51 = .ok (.lload_n 3, 1) := by decide +kernel
theorem dX4_test_52 : decode cX4_test 52 = .ok (.aload_n 0, 1) := by decide +kernel
theorem dX4_test_53 : decode cX4_test 53 = .ok (.getfield 14, 3) := by decide +kernel
theorem dX4_test_56 : decode cX4_test 56 = .ok (.invokevirtual 182, 3) := by decide +kernel
theorem dX4_test_59 : decode cX4_test 59 = .ok (.invokestatic 185, 3) := by decide +kernel
theorem dX4_test_62 : decode cX4_test 62 = .ok (.lload_n 3, 1) := by decide +kernel
theorem dX4_test_63 : decode cX4_test 63 = .ok (.lcmp, 1) := by decide +kernel
theorem dX4_test_64 : decode cX4_test 64 = .ok (.ifCond .ne 7, 3) := by decide +kernel
theorem dX4_test_67 : decode cX4_test 67 = .ok (.iconst 0, 1) := by decide +kernel
theorem dX4_test_68 : decode cX4_test 68 = .ok (.goto 4, 3) := by decide +kernel
theorem dX4_test_71 : decode cX4_test 71 = .ok (.iconst 3, 1) := by decide +kernel
theorem dX4_test_72 : decode cX4_test 72 = .ok (.ireturn, 1) := by decide +kernel
set_option maxRecDepth 20000 in
theorem ggX4_compare_X4_currentProof : GoodIn wsX4_compare wsX4_currentProof := goodIn_r _ [6, 7, 8, 9, 10, 11, 12, 13, 14, 15, 16, 17, 18, 19, 20, 21, 22, 23, 24, 25, 26, 27, 28, 29, 30, 31, 32, 33, 34, 35, 36, 37, 38, 39, 40, 41, 42, 43, 44, 45, 46, 47, 48, 49, 50, 51, 52, 53, 54, 55, 56, 57, 58, 5, 59, 1, 60, 61, 62, 63, 64, 65, 66, 67, 68, 69, 70, 71, 72, 73, 74, 75, 76, 77, 78, 79, 80, 81, 82, 83, 84, 85, 86, 87, 88, 89, 90, 91, 92, 93, 94, 95, 96, 97, 98, 99, 100, 101, 102, 103, 104, 105, 106, 107, 108, 109, 110, 111, 112, 113, 114, 115, 116, 117, 118, 119, 120, 121, 122, 123, 124, 125, 126, 127, 128, 129, 130, 131, 132, 133, 134, 135, 136, 137, 146, 147, 148, 149, 150, 151, 152, 153, 154, 155, 156, 157, 158, 159, 160, 161, 162, 163, 164, 165, 166, 167, 168, 169, 170, 171] (by decide +kernel) (by decide +kernel)
set_option maxRecDepth 20000 in
theorem gX4_compare_X4_currentProof : GoodIn wsX4_compare (wsV RX4 94 RX4 yX4_currentProof wsX4_currentProof) := goodIn_app (goodIn_of _ (by decide +kernel)) ggX4_compare_X4_currentProof
set_option maxRecDepth 20000 in
theorem ggX4_compare_X2_hasEmptyClause : GoodIn wsX4_compare wsX2_hasEmptyClause := goodIn_r _ [141, 17, 154, 155, 156, 157, 158, 159, 160, 161, 162, 163, 164, 165, 166, 167] (by decide +kernel) (by decide +kernel)
set_option maxRecDepth 20000 in
theorem gX4_compare_X2_hasEmptyClause : GoodIn wsX4_compare (wsV RX4 98 RX2 yX2_hasEmptyClause wsX2_hasEmptyClause) := goodIn_app (goodIn_of _ (by decide +kernel)) ggX4_compare_X2_hasEmptyClause
set_option maxRecDepth 20000 in
theorem ggX4_compare_X2_middleClaim : GoodIn wsX4_compare wsX2_middleClaim := goodIn_r _ [145, 15, 110, 111, 112, 13, 113, 76, 77, 98, 99, 100, 101, 154, 155, 156, 157, 158, 159, 160, 161, 162, 163, 164, 165, 166, 167] (by decide +kernel) (by decide +kernel)
set_option maxRecDepth 20000 in
theorem gX4_compare_X2_middleClaim : GoodIn wsX4_compare (wsV RX4 172 RX2 yX2_middleClaim wsX2_middleClaim) := goodIn_app (goodIn_of _ (by decide +kernel)) ggX4_compare_X2_middleClaim
theorem dX4_compare_0 : decode cX4_compare 0 = .ok (.aload_n 0, 1) := by decide +kernel
theorem dX4_compare_1 : decode cX4_compare 1 = .ok (.invokevirtual 94, 3) := by decide +kernel
theorem dX4_compare_4 : decode cX4_compare 4 = .ok (.astore_n 1, 1) := by decide +kernel
theorem dX4_compare_5 : decode cX4_compare 5 = .ok (.aload_n 1, 1) := by decide +kernel
theorem dX4_compare_6 : decode cX4_compare 6 = .ok (.invokevirtual 98, 3) := by decide +kernel
theorem dX4_compare_9 : decode cX4_compare 9 = .ok (.ifCond .ne 6, 3) := by decide +kernel
theorem dX4_compare_12 : decode cX4_compare 12 = .ok (.bipush (-4), 2) := by decide +kernel
theorem dX4_compare_14 : decode cX4_compare 14 = .ok (.ireturn, 1) := by decide +kernel
theorem dX4_compare_15 : decode cX4_compare 15 = .ok (.aload_n 1, 1) := by decide +kernel
theorem dX4_compare_16 : decode cX4_compare 16 = .ok (.iconst 0, 1) := by decide +kernel
theorem dX4_compare_17 : decode cX4_compare 17 = .ok (.invokevirtual 172, 3) := by decide +kernel
theorem dX4_compare_20 : decode cX4_compare 20 = .ok (.lstore_n 2, 1) := by decide +kernel
theorem dX4_compare_21 : decode cX4_compare 21 = .ok (.aload_n 1, 1) := by decide +kernel
theorem dX4_compare_22 : decode cX4_compare 22 = .ok (.iconst 1, 1) := by decide +kernel
theorem dX4_compare_23 : decode cX4_compare 23 = .ok (.invokevirtual 172, 3) := by decide +kernel
theorem dX4_compare_26 : decode cX4_compare 26 = .ok (.lstore 4, 2) := by decide +kernel
theorem dX4_compare_28 : decode cX4_compare 28 = .ok (.lload_n 2, 1) := by decide +kernel
theorem dX4_compare_29 : decode cX4_compare 29 = .ok (.lload 4, 2) := by decide +kernel
theorem dX4_compare_31 : decode cX4_compare 31 = .ok (.lcmp, 1) := by decide +kernel
theorem dX4_compare_32 : decode cX4_compare 32 = .ok (.ifCond .ne 5, 3) := by decide +kernel
theorem dX4_compare_35 : decode cX4_compare 35 = .ok (.iconst 0, 1) := by decide +kernel
theorem dX4_compare_36 : decode cX4_compare 36 = .ok (.ireturn, 1) := by decide +kernel
theorem dX4_compare_37 : decode cX4_compare 37 = .ok (.lload_n 2, 1) := by decide +kernel
theorem dX4_compare_38 : decode cX4_compare 38 = .ok (.lload 4, 2) := by decide +kernel
theorem dX4_compare_40 : decode cX4_compare 40 = .ok (.ldc2_w 189, 3) := by decide +kernel
theorem dX4_compare_43 : decode cX4_compare 43 = .ok (.lxor, 1) := by decide +kernel
theorem dX4_compare_44 : decode cX4_compare 44 = .ok (.land, 1) := by decide +kernel
theorem dX4_compare_45 : decode cX4_compare 45 = .ok (.lconst 0, 1) := by decide +kernel
theorem dX4_compare_46 : decode cX4_compare 46 = .ok (.lcmp, 1) := by decide +kernel
theorem dX4_compare_47 : decode cX4_compare 47 = .ok (.ifCond .ne 5, 3) := by decide +kernel
theorem dX4_compare_50 : decode cX4_compare 50 = .ok (.iconst 1, 1) := by decide +kernel
theorem dX4_compare_51 : decode cX4_compare 51 = .ok (.ireturn, 1) := by decide +kernel
theorem dX4_compare_52 : decode cX4_compare 52 = .ok (.lload 4, 2) := by decide +kernel
theorem dX4_compare_54 : decode cX4_compare 54 = .ok (.lload_n 2, 1) := by decide +kernel
theorem dX4_compare_55 : decode cX4_compare 55 = .ok (.ldc2_w 189, 3) := by decide +kernel
theorem dX4_compare_58 : decode cX4_compare 58 = .ok (.lxor, 1) := by decide +kernel
theorem dX4_compare_59 : decode cX4_compare 59 = .ok (.land, 1) := by decide +kernel
theorem dX4_compare_60 : decode cX4_compare 60 = .ok (.lconst 0, 1) := by decide +kernel
theorem dX4_compare_61 : decode cX4_compare 61 = .ok (.lcmp, 1) := by decide +kernel
theorem dX4_compare_62 : decode cX4_compare 62 = .ok (.ifCond .ne 7, 3) := by decide +kernel
theorem dX4_compare_65 : decode cX4_compare 65 = .ok (.iconst 2, 1) := by decide +kernel
theorem dX4_compare_66 : decode cX4_compare 66 = .ok (.goto 4, 3) := by decide +kernel
theorem dX4_compare_69 : decode cX4_compare 69 = .ok (.iconst 3, 1) := by decide +kernel
theorem dX4_compare_70 : decode cX4_compare 70 = .ok (.ireturn, 1) := by decide +kernel
set_option maxRecDepth 20000 in
theorem ggX4_count_X0_size : GoodIn wsX4_count wsX0_size := goodIn_r _ [8, 9, 220, 221, 222, 223] (by decide +kernel) (by decide +kernel)
set_option maxRecDepth 20000 in
theorem gX4_count_X0_size : GoodIn wsX4_count (wsV RX4 59 RX0 yX0_size wsX0_size) := goodIn_app (goodIn_of _ (by decide +kernel)) ggX4_count_X0_size
set_option maxRecDepth 20000 in
theorem ggX4_count_X0_sharedSigns : GoodIn wsX4_count wsX0_sharedSigns := goodIn_r _ [13, 14, 15, 16, 7, 17, 9, 18, 19, 20, 21, 22, 23, 24, 25, 26, 27, 28, 29, 30, 31, 32, 33, 34, 35, 36, 220, 221, 222, 223] (by decide +kernel) (by decide +kernel)
set_option maxRecDepth 20000 in
theorem gX4_count_X0_sharedSigns : GoodIn wsX4_count (wsV RX4 182 RX0 yX0_sharedSigns wsX0_sharedSigns) := goodIn_app (goodIn_of _ (by decide +kernel)) ggX4_count_X0_sharedSigns
set_option maxRecDepth 20000 in
theorem ggX4_count_X0_clash : GoodIn wsX4_count wsX0_clash := goodIn_r _ [40, 41, 42, 43, 7, 44, 45, 46, 47, 48, 49, 9, 18, 19, 20, 21, 22, 23, 24, 25, 26, 50, 51, 52, 53, 27, 28, 29, 30, 31, 32, 33, 34, 35, 36, 54, 55, 56, 57, 58, 59, 60, 61, 62, 63, 64, 220, 221, 222, 223] (by decide +kernel) (by decide +kernel)
set_option maxRecDepth 20000 in
theorem gX4_count_X0_clash : GoodIn wsX4_count (wsV RX4 179 RX0 yX0_clash wsX0_clash) := goodIn_app (goodIn_of _ (by decide +kernel)) ggX4_count_X0_clash
set_option maxRecDepth 20000 in
theorem ggX4_count_X4_asNumber : GoodIn wsX4_count wsX4_asNumber := goodIn_r _ [67] (by decide +kernel) (by decide +kernel)
set_option maxRecDepth 20000 in
theorem gX4_count_X4_asNumber : GoodIn wsX4_count (va_wsS RX4 140 yX4_asNumber wsX4_asNumber) := goodIn_app (goodIn_of _ (by decide +kernel)) ggX4_count_X4_asNumber
set_option maxRecDepth 20000 in
theorem ggX4_count_X4_currentProof : GoodIn wsX4_count wsX4_currentProof := goodIn_r _ [71, 72, 73, 1, 74, 75, 76, 77, 78, 79, 80, 81, 82, 83, 84, 85, 15, 16, 7, 17, 9, 18, 19, 20, 21, 22, 23, 24, 25, 26, 27, 28, 29, 30, 31, 32, 33, 34, 35, 36, 86, 5, 6, 8, 87, 88, 89, 90, 91, 92, 93, 94, 54, 55, 56, 57, 58, 59, 60, 61, 62, 63, 64, 95, 96, 97, 98, 99, 100, 101, 102, 103, 104, 105, 106, 107, 108, 109, 110, 111, 112, 113, 114, 115, 116, 117, 118, 119, 120, 121, 122, 123, 124, 125, 126, 127, 128, 129, 130, 131, 132, 133, 134, 135, 136, 137, 138, 139, 140, 141, 142, 143, 144, 145, 146, 147, 148, 149, 150, 151, 152, 153, 154, 155, 156, 157, 158, 159, 160, 161, 162, 163, 164, 165, 212, 213, 214, 215, 216, 217, 218, 219, 224, 225, 226, 227, 228, 229, 230, 231, 232, 233, 234, 235, 236, 237, 220, 221, 222, 223] (by decide +kernel) (by decide +kernel)
set_option maxRecDepth 20000 in
theorem gX4_count_X4_currentProof : GoodIn wsX4_count (wsV RX4 94 RX4 yX4_currentProof wsX4_currentProof) := goodIn_app (goodIn_of _ (by decide +kernel)) ggX4_count_X4_currentProof
set_option maxRecDepth 20000 in
theorem ggX4_count_X4_stepsOf : GoodIn wsX4_count wsX4_stepsOf := goodIn_r _ [168, 169, 170, 171, 77, 172, 80, 173, 174, 175, 176, 79, 224, 225, 226, 227, 228, 229, 230, 231, 232, 233, 234, 235, 236, 237] (by decide +kernel) (by decide +kernel)
set_option maxRecDepth 20000 in
theorem gX4_count_X4_stepsOf : GoodIn wsX4_count (va_wsS RX4 193 yX4_stepsOf wsX4_stepsOf) := goodIn_app (goodIn_of _ (by decide +kernel)) ggX4_count_X4_stepsOf
set_option maxRecDepth 20000 in
theorem ggX4_count_X2_neededAmong : GoodIn wsX4_count wsX2_neededAmong := goodIn_r _ [180, 79, 154, 155, 156, 77, 157, 106, 126, 127, 128, 129, 66, 55, 67, 224, 225, 226, 227, 228, 229, 230, 231, 232, 233, 234, 235, 236, 237] (by decide +kernel) (by decide +kernel)
set_option maxRecDepth 20000 in
theorem gX4_count_X2_neededAmong : GoodIn wsX4_count (wsV RX4 102 RX2 yX2_neededAmong wsX2_neededAmong) := goodIn_app (goodIn_of _ (by decide +kernel)) ggX4_count_X2_neededAmong
set_option maxRecDepth 20000 in
theorem ggX4_count_X2_hasEmptyClause : GoodIn wsX4_count wsX2_hasEmptyClause := goodIn_r _ [184, 81, 224, 225, 226, 227, 228, 229, 230, 231, 232, 233, 234, 235, 236, 237] (by decide +kernel) (by decide +kernel)
set_option maxRecDepth 20000 in
theorem gX4_count_X2_hasEmptyClause : GoodIn wsX4_count (wsV RX4 98 RX2 yX2_hasEmptyClause wsX2_hasEmptyClause) := goodIn_app (goodIn_of _ (by decide +kernel)) ggX4_count_X2_hasEmptyClause
set_option maxRecDepth 20000 in
theorem ggX4_count_X4_worldsOfMiddleClaim : GoodIn wsX4_count wsX4_worldsOfMiddleClaim := goodIn_r _ [187, 181, 182, 183, 77, 184, 81, 188, 189, 190, 191, 79, 138, 139, 140, 141, 104, 105, 126, 127, 128, 129, 192, 193, 194, 195, 196, 197, 198, 224, 225, 226, 227, 228, 229, 230, 231, 232, 233, 234, 235, 236, 237] (by decide +kernel) (by decide +kernel)
set_option maxRecDepth 20000 in
theorem gX4_count_X4_worldsOfMiddleClaim : GoodIn wsX4_count (va_wsS RX4 197 yX4_worldsOfMiddleClaim wsX4_worldsOfMiddleClaim) := goodIn_app (goodIn_of _ (by decide +kernel)) ggX4_count_X4_worldsOfMiddleClaim
set_option maxRecDepth 20000 in
theorem ggX4_count_X0_worldsOfBoth : GoodIn wsX4_count wsX0_worldsOfBoth := goodIn_r _ [44, 45, 46, 47, 7, 48, 49, 9, 18, 19, 20, 21, 22, 23, 24, 25, 26, 50, 51, 52, 53, 27, 28, 29, 30, 31, 32, 33, 34, 35, 36, 54, 55, 56, 57, 58, 59, 60, 61, 62, 63, 64, 220, 221, 222, 223] (by decide +kernel) (by decide +kernel)
set_option maxRecDepth 20000 in
theorem gX4_count_X0_worldsOfBoth : GoodIn wsX4_count (wsV RX4 201 RX0 yX0_worldsOfBoth wsX0_worldsOfBoth) := goodIn_app (goodIn_of _ (by decide +kernel)) ggX4_count_X0_worldsOfBoth
set_option maxRecDepth 20000 in
theorem ggX4_count_J13_bitCount_95d88 : GoodIn wsX4_count wsJ13_bitCount_95d88 := goodIn_r _ [195, 196, 197, 198] (by decide +kernel) (by decide +kernel)
set_option maxRecDepth 20000 in
theorem gX4_count_J13_bitCount_95d88 : GoodIn wsX4_count (va_wsS RX4 134 yJ13_bitCount_95d88 wsJ13_bitCount_95d88) := goodIn_app (goodIn_of _ (by decide +kernel)) ggX4_count_J13_bitCount_95d88
set_option maxRecDepth 20000 in
theorem ggX4_count_X1_size : GoodIn wsX4_count wsX1_size := goodIn_r _ [204, 205, 238, 239] (by decide +kernel) (by decide +kernel)
set_option maxRecDepth 20000 in
theorem gX4_count_X1_size : GoodIn wsX4_count (wsV RX4 117 RX1 yX1_size wsX1_size) := goodIn_app (goodIn_of _ (by decide +kernel)) ggX4_count_X1_size
set_option maxRecDepth 20000 in
theorem ggX4_count_X3_length : GoodIn wsX4_count wsX3_length := goodIn_r _ [210, 211, 240, 241, 242, 243, 244, 245, 246] (by decide +kernel) (by decide +kernel)
set_option maxRecDepth 20000 in
theorem gX4_count_X3_length : GoodIn wsX4_count (wsV RX4 111 RX3 yX3_length wsX3_length) := goodIn_app (goodIn_of _ (by decide +kernel)) ggX4_count_X3_length
theorem dX4_count_0 : decode cX4_count 0 = .ok (.iload_n 1, 1) := by decide +kernel
theorem dX4_count_1 : decode cX4_count 1 = .ok (.tableswitch 161 0 10 #[59, 67, 75, 86, 94, 105, 116, 125, 134, 145, 153], 59) := by decide +kernel
theorem dX4_count_60 : decode cX4_count 60 = .ok (.aload_n 0, 1) := by decide +kernel
theorem dX4_count_61 : decode cX4_count 61 = .ok (.getfield 14, 3) := by decide +kernel
theorem dX4_count_64 : decode cX4_count 64 = .ok (.invokevirtual 59, 3) := by decide +kernel
theorem dX4_count_67 : decode cX4_count 67 = .ok (.ireturn, 1) := by decide +kernel
theorem dX4_count_68 : decode cX4_count 68 = .ok (.aload_n 0, 1) := by decide +kernel
theorem dX4_count_69 : decode cX4_count 69 = .ok (.getfield 14, 3) := by decide +kernel
theorem dX4_count_72 : decode cX4_count 72 = .ok (.invokevirtual 182, 3) := by decide +kernel
theorem dX4_count_75 : decode cX4_count 75 = .ok (.ireturn, 1) := by decide +kernel
theorem dX4_count_76 : decode cX4_count 76 = .ok (.aload_n 0, 1) := by decide +kernel
theorem dX4_count_77 : decode cX4_count 77 = .ok (.getfield 14, 3) := by decide +kernel
theorem dX4_count_80 : decode cX4_count 80 = .ok (.invokevirtual 179, 3) := by decide +kernel
theorem dX4_count_83 : decode cX4_count 83 = .ok (.invokestatic 140, 3) := by decide +kernel
theorem dX4_count_86 : decode cX4_count 86 = .ok (.ireturn, 1) := by decide +kernel
theorem dX4_count_87 : decode cX4_count 87 = .ok (.aload_n 0, 1) := by decide +kernel
theorem dX4_count_88 : decode cX4_count 88 = .ok (.invokevirtual 94, 3) := by decide +kernel
theorem dX4_count_91 : decode cX4_count 91 = .ok (.invokestatic 193, 3) := by decide +kernel
theorem dX4_count_94 : decode cX4_count 94 = .ok (.ireturn, 1) := by decide +kernel
theorem dX4_count_95 : decode cX4_count 95 = .ok (.aload_n 0, 1) := by decide +kernel
theorem dX4_count_96 : decode cX4_count 96 = .ok (.invokevirtual 94, 3) := by decide +kernel
theorem dX4_count_99 : decode cX4_count 99 = .ok (.sipush 400, 3) := by decide +kernel
theorem dX4_count_102 : decode cX4_count 102 = .ok (.invokevirtual 102, 3) := by decide +kernel
theorem dX4_count_105 : decode cX4_count 105 = .ok (.ireturn, 1) := by decide +kernel
theorem dX4_count_106 : decode cX4_count 106 = .ok (.aload_n 0, 1) := by decide +kernel
theorem dX4_count_107 : decode cX4_count 107 = .ok (.invokevirtual 94, 3) := by decide +kernel
theorem dX4_count_110 : decode cX4_count 110 = .ok (.invokevirtual 98, 3) := by decide +kernel
theorem dX4_count_113 : decode cX4_count 113 = .ok (.invokestatic 140, 3) := by decide +kernel
theorem dX4_count_116 : decode cX4_count 116 = .ok (.ireturn, 1) := by decide +kernel
theorem dX4_count_117 : decode cX4_count 117 = .ok (.aload_n 0, 1) := by decide +kernel
theorem dX4_count_118 : decode cX4_count 118 = .ok (.invokevirtual 94, 3) := by decide +kernel
theorem dX4_count_121 : decode cX4_count 121 = .ok (.iconst 0, 1) := by decide +kernel
theorem dX4_count_122 : decode cX4_count 122 = .ok (.invokestatic 197, 3) := by decide +kernel
theorem dX4_count_125 : decode cX4_count 125 = .ok (.ireturn, 1) := by decide +kernel
theorem dX4_count_126 : decode cX4_count 126 = .ok (.aload_n 0, 1) := by decide +kernel
theorem dX4_count_127 : decode cX4_count 127 = .ok (.invokevirtual 94, 3) := by decide +kernel
theorem dX4_count_130 : decode cX4_count 130 = .ok (.iconst 1, 1) := by decide +kernel
theorem dX4_count_131 : decode cX4_count 131 = .ok (.invokestatic 197, 3) := by decide +kernel
theorem dX4_count_134 : decode cX4_count 134 = .ok (.ireturn, 1) := by decide +kernel
theorem dX4_count_135 : decode cX4_count 135 = .ok (.aload_n 0, 1) := by decide +kernel
theorem dX4_count_136 : decode cX4_count 136 = .ok (.getfield 14, 3) := by decide +kernel
theorem dX4_count_139 : decode cX4_count 139 = .ok (.invokevirtual 201, 3) := by decide +kernel
theorem dX4_count_142 : decode cX4_count 142 = .ok (.invokestatic 134, 3) := by decide +kernel
theorem dX4_count_145 : decode cX4_count 145 = .ok (.ireturn, 1) := by decide +kernel
theorem dX4_count_146 : decode cX4_count 146 = .ok (.aload_n 0, 1) := by decide +kernel
theorem dX4_count_147 : decode cX4_count 147 = .ok (.getfield 31, 3) := by decide +kernel
theorem dX4_count_150 : decode cX4_count 150 = .ok (.invokevirtual 117, 3) := by decide +kernel
theorem dX4_count_153 : decode cX4_count 153 = .ok (.ireturn, 1) := by decide +kernel
theorem dX4_count_154 : decode cX4_count 154 = .ok (.aload_n 0, 1) := by decide +kernel
theorem dX4_count_155 : decode cX4_count 155 = .ok (.getfield 38, 3) := by decide +kernel
theorem dX4_count_158 : decode cX4_count 158 = .ok (.invokevirtual 111, 3) := by decide +kernel
theorem dX4_count_161 : decode cX4_count 161 = .ok (.ireturn, 1) := by decide +kernel
theorem dX4_count_162 : decode cX4_count 162 = .ok (.bipush (-2), 2) := by decide +kernel
theorem dX4_count_164 : decode cX4_count 164 = .ok (.ireturn, 1) := by decide +kernel
set_option maxRecDepth 20000 in
theorem ggX4_beginAct_X1_remember : GoodIn wsX4_beginAct wsX1_remember := goodIn_r _ [8, 9, 10, 11, 12, 13, 7, 14, 15, 16, 17, 18, 19, 20, 21, 22, 23, 24, 25, 26, 27, 28, 29, 30, 31, 32, 33, 34, 35, 36, 37, 38, 39, 40, 41, 42, 43, 44, 45, 46, 47, 48, 49, 50, 51, 52, 53, 54, 55, 64, 65, 66, 67, 68, 69] (by decide +kernel) (by decide +kernel)
set_option maxRecDepth 20000 in
theorem gX4_beginAct_X1_remember : GoodIn wsX4_beginAct (wsV RX4 205 RX1 yX1_remember wsX1_remember) := goodIn_app (goodIn_of _ (by decide +kernel)) ggX4_beginAct_X1_remember
theorem dX4_beginAct_0 : decode cX4_beginAct 0 = .ok (.aload_n 0, 1) := by decide +kernel
theorem dX4_beginAct_1 : decode cX4_beginAct 1 = .ok (.getfield 31, 3) := by decide +kernel
theorem dX4_beginAct_4 : decode cX4_beginAct 4 = .ok (.aload_n 0, 1) := by decide +kernel
theorem dX4_beginAct_5 : decode cX4_beginAct 5 = .ok (.getfield 14, 3) := by decide +kernel
theorem dX4_beginAct_8 : decode cX4_beginAct 8 = .ok (.invokevirtual 205, 3) := by decide +kernel
theorem dX4_beginAct_11 : decode cX4_beginAct 11 = .ok (.aload_n 0, 1) := by decide +kernel
theorem dX4_beginAct_12 : decode cX4_beginAct 12 = .ok (.iconst 0, 1) := by decide +kernel
theorem dX4_beginAct_13 : decode cX4_beginAct 13 = .ok (.putfield 49, 3) := by decide +kernel
theorem dX4_beginAct_16 : decode cX4_beginAct 16 = .ok (.return_, 1) := by decide +kernel
set_option maxRecDepth 20000 in
theorem ggX4_currentProof_X2_make : GoodIn wsX4_currentProof wsX2_make := goodIn_r _ [8, 9, 10, 11, 12, 13, 14, 15, 16, 17, 18, 19, 20, 21, 22, 23, 24, 25, 26, 27, 28, 29, 30, 31, 32, 33, 34, 35, 36, 37, 38, 39, 40, 41, 42, 43, 44, 45, 46, 47, 48, 49, 7, 50, 51, 52, 53, 54, 55, 56, 57, 58, 59, 60, 61, 62, 63, 64, 65, 66, 67, 68, 69, 70, 71, 72, 73, 74, 75, 76, 77, 78, 79, 80, 81, 82, 83, 84, 85, 86, 87, 88, 89, 90, 91, 92, 93, 94, 95, 96, 97, 98, 99, 100, 101, 102, 103, 104, 105, 106, 107, 108, 109, 110, 111, 112, 113, 114, 115, 116, 117, 118, 119, 120, 121, 122, 123, 124, 125, 126, 127, 128, 129, 130, 131, 132, 133, 142, 143, 144, 145, 146, 147, 148, 149, 150, 151, 152, 153, 154, 155, 156, 157, 158, 159] (by decide +kernel) (by decide +kernel)
set_option maxRecDepth 20000 in
theorem gX4_currentProof_X2_make : GoodIn wsX4_currentProof (wsV RX4 208 RX2 yX2_make wsX2_make) := goodIn_app (goodIn_of _ (by decide +kernel)) ggX4_currentProof_X2_make
theorem dX4_currentProof_0 : decode cX4_currentProof 0 = .ok (.aload_n 0, 1) := by decide +kernel
theorem dX4_currentProof_1 : decode cX4_currentProof 1 = .ok (.getfield 49, 3) := by decide +kernel
theorem dX4_currentProof_4 : decode cX4_currentProof 4 = .ok (.ifCond .ne 19, 3) := by decide +kernel
theorem dX4_currentProof_7 : decode cX4_currentProof 7 = .ok (.aload_n 0, 1) := by decide +kernel
theorem dX4_currentProof_8 : decode cX4_currentProof 8 = .ok (.getfield 45, 3) := by decide +kernel
theorem dX4_currentProof_11 : decode cX4_currentProof 11 = .ok (.aload_n 0, 1) := by decide +kernel
theorem dX4_currentProof_12 : decode cX4_currentProof 12 = .ok (.getfield 14, 3) := by decide +kernel
theorem dX4_currentProof_15 : decode cX4_currentProof 15 = .ok (.invokevirtual 208, 3) := by decide +kernel
theorem dX4_currentProof_18 : decode cX4_currentProof 18 = .ok (.aload_n 0, 1) := by decide +kernel
theorem dX4_currentProof_19 : decode cX4_currentProof 19 = .ok (.iconst 1, 1) := by decide +kernel
theorem dX4_currentProof_20 : decode cX4_currentProof 20 = .ok (.putfield 49, 3) := by decide +kernel
theorem dX4_currentProof_23 : decode cX4_currentProof 23 = .ok (.aload_n 0, 1) := by decide +kernel
theorem dX4_currentProof_24 : decode cX4_currentProof 24 = .ok (.getfield 45, 3) := by decide +kernel
theorem dX4_currentProof_27 : decode cX4_currentProof 27 = .ok (.areturn, 1) := by decide +kernel
set_option maxRecDepth 20000 in
theorem ggX4_stepsOf_X2_isKnown : GoodIn wsX4_stepsOf wsX2_isKnown := goodIn_r _ [5, 6, 12, 13, 14, 15, 16, 17, 18, 19, 20, 21, 22, 23, 24, 25] (by decide +kernel) (by decide +kernel)
set_option maxRecDepth 20000 in
theorem gX4_stepsOf_X2_isKnown : GoodIn wsX4_stepsOf (wsV RX4 153 RX2 yX2_isKnown wsX2_isKnown) := goodIn_app (goodIn_of _ (by decide +kernel)) ggX4_stepsOf_X2_isKnown
set_option maxRecDepth 20000 in
theorem ggX4_stepsOf_X2_size : GoodIn wsX4_stepsOf wsX2_size := goodIn_r _ [10, 11, 12, 13, 14, 15, 16, 17, 18, 19, 20, 21, 22, 23, 24, 25] (by decide +kernel) (by decide +kernel)
set_option maxRecDepth 20000 in
theorem gX4_stepsOf_X2_size : GoodIn wsX4_stepsOf (wsV RX4 211 RX2 yX2_size wsX2_size) := goodIn_app (goodIn_of _ (by decide +kernel)) ggX4_stepsOf_X2_size
theorem dX4_stepsOf_0 : decode cX4_stepsOf 0 = .ok (.aload_n 0, 1) := by decide +kernel
theorem dX4_stepsOf_1 : decode cX4_stepsOf 1 = .ok (.invokevirtual 153, 3) := by decide +kernel
theorem dX4_stepsOf_4 : decode cX4_stepsOf 4 = .ok (.ifCond .eq 10, 3) := by decide +kernel
theorem dX4_stepsOf_7 : decode cX4_stepsOf 7 = .ok (.aload_n 0, 1) := by decide +kernel
theorem dX4_stepsOf_8 : decode cX4_stepsOf 8 = .ok (.invokevirtual 211, 3) := by decide +kernel
theorem dX4_stepsOf_11 : decode cX4_stepsOf 11 = .ok (.goto 6, 3) := by decide +kernel
theorem dX4_stepsOf_14 : decode cX4_stepsOf 14 = .ok (.sipush 401, 3) := by decide +kernel
theorem dX4_stepsOf_17 : decode cX4_stepsOf 17 = .ok (.ireturn, 1) := by decide +kernel
set_option maxRecDepth 20000 in
theorem ggX4_worldsOfMiddleClaim_X2_hasEmptyClause : GoodIn wsX4_worldsOfMiddleClaim wsX2_hasEmptyClause := goodIn_r _ [5, 6, 29, 30, 31, 32, 33, 34, 35, 36, 37, 38, 39, 40, 41, 42] (by decide +kernel) (by decide +kernel)
set_option maxRecDepth 20000 in
theorem gX4_worldsOfMiddleClaim_X2_hasEmptyClause : GoodIn wsX4_worldsOfMiddleClaim (wsV RX4 98 RX2 yX2_hasEmptyClause wsX2_hasEmptyClause) := goodIn_app (goodIn_of _ (by decide +kernel)) ggX4_worldsOfMiddleClaim_X2_hasEmptyClause
set_option maxRecDepth 20000 in
theorem ggX4_worldsOfMiddleClaim_X2_middleClaim : GoodIn wsX4_worldsOfMiddleClaim wsX2_middleClaim := goodIn_r _ [10, 11, 12, 13, 14, 4, 15, 16, 17, 18, 19, 20, 21, 29, 30, 31, 32, 33, 34, 35, 36, 37, 38, 39, 40, 41, 42] (by decide +kernel) (by decide +kernel)
set_option maxRecDepth 20000 in
theorem gX4_worldsOfMiddleClaim_X2_middleClaim : GoodIn wsX4_worldsOfMiddleClaim (wsV RX4 172 RX2 yX2_middleClaim wsX2_middleClaim) := goodIn_app (goodIn_of _ (by decide +kernel)) ggX4_worldsOfMiddleClaim_X2_middleClaim
set_option maxRecDepth 20000 in
theorem ggX4_worldsOfMiddleClaim_J13_bitCount_95d88 : GoodIn wsX4_worldsOfMiddleClaim wsJ13_bitCount_95d88 := goodIn_r _ [25, 26, 27, 28] (by decide +kernel) (by decide +kernel)
set_option maxRecDepth 20000 in
theorem gX4_worldsOfMiddleClaim_J13_bitCount_95d88 : GoodIn wsX4_worldsOfMiddleClaim (va_wsS RX4 134 yJ13_bitCount_95d88 wsJ13_bitCount_95d88) := goodIn_app (goodIn_of _ (by decide +kernel)) ggX4_worldsOfMiddleClaim_J13_bitCount_95d88
theorem dX4_worldsOfMiddleClaim_0 : decode cX4_worldsOfMiddleClaim 0 = .ok (.aload_n 0, 1) := by decide +kernel
theorem dX4_worldsOfMiddleClaim_1 : decode cX4_worldsOfMiddleClaim 1 = .ok (.invokevirtual 98, 3) := by decide +kernel
theorem dX4_worldsOfMiddleClaim_4 : decode cX4_worldsOfMiddleClaim 4 = .ok (.ifCond .eq 14, 3) := by decide +kernel
theorem dX4_worldsOfMiddleClaim_7 : decode cX4_worldsOfMiddleClaim 7 = .ok (.aload_n 0, 1) := by decide +kernel
theorem dX4_worldsOfMiddleClaim_8 : decode cX4_worldsOfMiddleClaim 8 = .ok (.iload_n 1, 1) := by decide +kernel
theorem dX4_worldsOfMiddleClaim_9 : decode cX4_worldsOfMiddleClaim 9 = .ok (.invokevirtual 172, 3) := by decide +kernel
theorem dX4_worldsOfMiddleClaim_12 : decode cX4_worldsOfMiddleClaim 12 = .ok (.invokestatic 134, 3) := by decide +kernel
theorem dX4_worldsOfMiddleClaim_15 : decode cX4_worldsOfMiddleClaim 15 = .ok (.goto 5, 3) := by decide +kernel
theorem dX4_worldsOfMiddleClaim_18 : decode cX4_worldsOfMiddleClaim 18 = .ok (.bipush (-5), 2) := by decide +kernel
theorem dX4_worldsOfMiddleClaim_20 : decode cX4_worldsOfMiddleClaim 20 = .ok (.ireturn, 1) := by decide +kernel
