theorem dX5_init_0 : decode cX5_init 0 = .ok (.aload_n 0, 1) := by decide +kernel
theorem dX5_init_1 : decode cX5_init 1 = .ok (.invokespecial 1, 3) := by decide +kernel
theorem dX5_init_4 : decode cX5_init 4 = .ok (.aload_n 0, 1) := by decide +kernel
theorem dX5_init_5 : decode cX5_init 5 = .ok (.bipush 73, 2) := by decide +kernel
theorem dX5_init_7 : decode cX5_init 7 = .ok (.newarray .int, 2) := by decide +kernel
theorem dX5_init_9 : decode cX5_init 9 = .ok (.putfield 7, 3) := by decide +kernel
theorem dX5_init_12 : decode cX5_init 12 = .ok (.aload_n 0, 1) := by decide +kernel
theorem dX5_init_13 : decode cX5_init 13 = .ok (.sipush 292, 3) := by decide +kernel
theorem dX5_init_16 : decode cX5_init 16 = .ok (.newarray .int, 2) := by decide +kernel
theorem dX5_init_18 : decode cX5_init 18 = .ok (.putfield 13, 3) := by decide +kernel
theorem dX5_init_21 : decode cX5_init 21 = .ok (.aload_n 0, 1) := by decide +kernel
theorem dX5_init_22 : decode cX5_init 22 = .ok (.bipush 73, 2) := by decide +kernel
theorem dX5_init_24 : decode cX5_init 24 = .ok (.newarray .int, 2) := by decide +kernel
theorem dX5_init_26 : decode cX5_init 26 = .ok (.putfield 16, 3) := by decide +kernel
theorem dX5_init_29 : decode cX5_init 29 = .ok (.aload_n 0, 1) := by decide +kernel
theorem dX5_init_30 : decode cX5_init 30 = .ok (.bipush 60, 2) := by decide +kernel
theorem dX5_init_32 : decode cX5_init 32 = .ok (.newarray .int, 2) := by decide +kernel
theorem dX5_init_34 : decode cX5_init 34 = .ok (.putfield 19, 3) := by decide +kernel
theorem dX5_init_37 : decode cX5_init 37 = .ok (.aload_n 0, 1) := by decide +kernel
theorem dX5_init_38 : decode cX5_init 38 = .ok (.sipush 400, 3) := by decide +kernel
theorem dX5_init_41 : decode cX5_init 41 = .ok (.newarray .int, 2) := by decide +kernel
theorem dX5_init_43 : decode cX5_init 43 = .ok (.putfield 22, 3) := by decide +kernel
theorem dX5_init_46 : decode cX5_init 46 = .ok (.aload_n 0, 1) := by decide +kernel
theorem dX5_init_47 : decode cX5_init 47 = .ok (.sipush 400, 3) := by decide +kernel
theorem dX5_init_50 : decode cX5_init 50 = .ok (.newarray .int, 2) := by decide +kernel
theorem dX5_init_52 : decode cX5_init 52 = .ok (.putfield 25, 3) := by decide +kernel
theorem dX5_init_55 : decode cX5_init 55 = .ok (.aload_n 0, 1) := by decide +kernel
theorem dX5_init_56 : decode cX5_init 56 = .ok (.sipush 400, 3) := by decide +kernel
theorem dX5_init_59 : decode cX5_init 59 = .ok (.newarray .int, 2) := by decide +kernel
theorem dX5_init_61 : decode cX5_init 61 = .ok (.putfield 28, 3) := by decide +kernel
theorem dX5_init_64 : decode cX5_init 64 = .ok (.aload_n 0, 1) := by decide +kernel
theorem dX5_init_65 : decode cX5_init 65 = .ok (.sipush 400, 3) := by decide +kernel
theorem dX5_init_68 : decode cX5_init 68 = .ok (.newarray .int, 2) := by decide +kernel
theorem dX5_init_70 : decode cX5_init 70 = .ok (.putfield 31, 3) := by decide +kernel
theorem dX5_init_73 : decode cX5_init 73 = .ok (.aload_n 0, 1) := by decide +kernel
theorem dX5_init_74 : decode cX5_init 74 = .ok (.sipush 400, 3) := by decide +kernel
theorem dX5_init_77 : decode cX5_init 77 = .ok (.newarray .int, 2) := by decide +kernel
theorem dX5_init_79 : decode cX5_init 79 = .ok (.putfield 34, 3) := by decide +kernel
theorem dX5_init_82 : decode cX5_init 82 = .ok (.aload_n 0, 1) := by decide +kernel
theorem dX5_init_83 : decode cX5_init 83 = .ok (.sipush 400, 3) := by decide +kernel
theorem dX5_init_86 : decode cX5_init 86 = .ok (.newarray .boolean, 2) := by decide +kernel
theorem dX5_init_88 : decode cX5_init 88 = .ok (.putfield 37, 3) := by decide +kernel
theorem dX5_init_91 : decode cX5_init 91 = .ok (.aload_n 0, 1) := by decide +kernel
theorem dX5_init_92 : decode cX5_init 92 = .ok (.sipush 4096, 3) := by decide +kernel
theorem dX5_init_95 : decode cX5_init 95 = .ok (.newarray .boolean, 2) := by decide +kernel
theorem dX5_init_97 : decode cX5_init 97 = .ok (.putfield 41, 3) := by decide +kernel
theorem dX5_init_100 : decode cX5_init 100 = .ok (.aload_n 0, 1) := by decide +kernel
theorem dX5_init_101 : decode cX5_init 101 = .ok (.sipush 400, 3) := by decide +kernel
theorem dX5_init_104 : decode cX5_init 104 = .ok (.newarray .long, 2) := by decide +kernel
theorem dX5_init_106 : decode cX5_init 106 = .ok (.putfield 44, 3) := by decide +kernel
theorem dX5_init_109 : decode cX5_init 109 = .ok (.aload_n 0, 1) := by decide +kernel
theorem dX5_init_110 : decode cX5_init 110 = .ok (.getfield 7, 3) := by decide +kernel
theorem dX5_init_113 : decode cX5_init 113 = .ok (.iconst 0, 1) := by decide +kernel
theorem dX5_init_114 : decode cX5_init 114 = .ok (.iconst 0, 1) := by decide +kernel
theorem dX5_init_115 : decode cX5_init 115 = .ok (.iastore, 1) := by decide +kernel
theorem dX5_init_116 : decode cX5_init 116 = .ok (.return_, 1) := by decide +kernel
theorem dX5_in_0 : decode cX5_in 0 = .ok (.iload_n 0, 1) := by decide +kernel
theorem dX5_in_1 : decode cX5_in 1 = .ok (.iload_n 1, 1) := by decide +kernel
theorem dX5_in_2 : decode cX5_in 2 = .ok (.if_icmp .lt 12, 3) := by decide +kernel
theorem dX5_in_5 : decode cX5_in 5 = .ok (.iload_n 0, 1) := by decide +kernel
theorem dX5_in_6 : decode cX5_in 6 = .ok (.iload_n 2, 1) := by decide +kernel
theorem dX5_in_7 : decode cX5_in 7 = .ok (.if_icmp .gt 7, 3) := by decide +kernel
theorem dX5_in_10 : decode cX5_in 10 = .ok (.iconst 1, 1) := by decide +kernel
theorem dX5_in_11 : decode cX5_in 11 = .ok (.goto 4, 3) := by decide +kernel
theorem dX5_in_14 : decode cX5_in 14 = .ok (.iconst 0, 1) := by decide +kernel
theorem dX5_in_15 : decode cX5_in 15 = .ok (.ireturn, 1) := by decide +kernel
set_option maxRecDepth 20000 in
theorem ggX5_isClause_X5_in : GoodIn wsX5_isClause wsX5_in := goodIn_r _ [5] (by decide +kernel) (by decide +kernel)
set_option maxRecDepth 20000 in
theorem gX5_isClause_X5_in : GoodIn wsX5_isClause (va_wsS RX5 48 yX5_in wsX5_in) := goodIn_app (goodIn_of _ (by decide +kernel)) ggX5_isClause_X5_in
theorem dX5_isClause_0 : decode cX5_isClause 0 = .ok (.iload_n 1, 1) := by decide +kernel
theorem dX5_isClause_1 : decode cX5_isClause 1 = .ok (.iconst 0, 1) := by decide +kernel
theorem dX5_isClause_2 : decode cX5_isClause 2 = .ok (.aload_n 0, 1) := by decide +kernel
theorem dX5_isClause_3 : decode cX5_isClause 3 = .ok (.getfield 7, 3) := by decide +kernel
theorem dX5_isClause_6 : decode cX5_isClause 6 = .ok (.iconst 0, 1) := by decide +kernel
theorem dX5_isClause_7 : decode cX5_isClause 7 = .ok (.iaload, 1) := by decide +kernel
theorem dX5_isClause_8 : decode cX5_isClause 8 = .ok (.iconst 1, 1) := by decide +kernel
theorem dX5_isClause_9 : decode cX5_isClause 9 = .ok (.isub, 1) := by decide +kernel
theorem dX5_isClause_10 : decode cX5_isClause 10 = .ok (.invokestatic 48, 3) := by decide +kernel
theorem dX5_isClause_13 : decode cX5_isClause 13 = .ok (.ireturn, 1) := by decide +kernel
theorem dX5_know_0 : decode cX5_know 0 = .ok (.aload_n 0, 1) := by decide +kernel
theorem dX5_know_1 : decode cX5_know 1 = .ok (.getfield 52, 3) := by decide +kernel
theorem dX5_know_4 : decode cX5_know 4 = .ok (.iconst 4, 1) := by decide +kernel
theorem dX5_know_5 : decode cX5_know 5 = .ok (.if_icmp .ne 43, 3) := by decide +kernel
theorem dX5_know_8 : decode cX5_know 8 = .ok (.iconst 0, 1) := by decide +kernel
theorem dX5_know_9 : decode cX5_know 9 = .ok (.istore_n 1, 1) := by decide +kernel
theorem dX5_know_10 : decode cX5_know 10 = .ok (.iload_n 1, 1) := by decide +kernel
theorem dX5_know_11 : decode cX5_know 11 = .ok (.sipush 219, 3) := by decide +kernel
theorem dX5_know_14 : decode cX5_know 14 = .ok (.if_icmp .ge 24, 3) := by decide +kernel
theorem dX5_know_17 : decode cX5_know 17 = .ok (.aload_n 0, 1) := by decide +kernel
theorem dX5_know_18 : decode cX5_know 18 = .ok (.getfield 13, 3) := by decide +kernel
theorem dX5_know_21 : decode cX5_know 21 = .ok (.iload_n 1, 1) := by decide +kernel
theorem dX5_know_22 : decode cX5_know 22 = .ok (.aload_n 0, 1) := by decide +kernel
theorem dX5_know_23 : decode cX5_know 23 = .ok (.getfield 13, 3) := by decide +kernel
theorem dX5_know_26 : decode cX5_know 26 = .ok (.bipush 73, 2) := by decide +kernel
theorem dX5_know_28 : decode cX5_know 28 = .ok (.iload_n 1, 1) := by decide +kernel
theorem dX5_know_29 : decode cX5_know 29 = .ok (.iadd, 1) := by decide +kernel
theorem dX5_know_30 : decode cX5_know 30 = .ok (.iaload, 1) := by decide +kernel
theorem dX5_know_31 : decode cX5_know 31 = .ok (.iastore, 1) := by decide +kernel
theorem dX5_know_32 : decode cX5_know 32 = .ok (.iinc 1 1, 3) := by decide +kernel
theorem dX5_know_35 : decode cX5_know 35 = .ok (.goto (-25), 3) := by decide +kernel
theorem dX5_know_38 : decode cX5_know 38 = .ok (.aload_n 0, 1) := by decide +kernel
theorem dX5_know_39 : decode cX5_know 39 = .ok (.dup, 1) := by decide +kernel
theorem dX5_know_40 : decode cX5_know 40 = .ok (.getfield 52, 3) := by decide +kernel
theorem dX5_know_43 : decode cX5_know 43 = .ok (.iconst 1, 1) := by decide +kernel
theorem dX5_know_44 : decode cX5_know 44 = .ok (.isub, 1) := by decide +kernel
theorem dX5_know_45 : decode cX5_know 45 = .ok (.putfield 52, 3) := by decide +kernel
theorem dX5_know_48 : decode cX5_know 48 = .ok (.iconst 0, 1) := by decide +kernel
theorem dX5_know_49 : decode cX5_know 49 = .ok (.istore_n 1, 1) := by decide +kernel
theorem dX5_know_50 : decode cX5_know 50 = .ok (.iload_n 1, 1) := by decide +kernel
theorem dX5_know_51 : decode cX5_know 51 = .ok (.bipush 73, 2) := by decide +kernel
theorem dX5_know_53 : decode cX5_know 53 = .ok (.if_icmp .ge 29, 3) := by decide +kernel
theorem dX5_know_56 : decode cX5_know 56 = .ok (.aload_n 0, 1) := by decide +kernel
theorem dX5_know_57 : decode cX5_know 57 = .ok (.getfield 13, 3) := by decide +kernel
theorem dX5_know_60 : decode cX5_know 60 = .ok (.bipush 73, 2) := by decide +kernel
theorem dX5_know_62 : decode cX5_know 62 = .ok (.aload_n 0, 1) := by decide +kernel
theorem dX5_know_63 : decode cX5_know 63 = .ok (.getfield 52, 3) := by decide +kernel
theorem dX5_know_66 : decode cX5_know 66 = .ok (.imul, 1) := by decide +kernel
theorem dX5_know_67 : decode cX5_know 67 = .ok (.iload_n 1, 1) := by decide +kernel
theorem dX5_know_68 : decode cX5_know 68 = .ok (.iadd, 1) := by decide +kernel
theorem dX5_know_69 : decode cX5_know 69 = .ok (.aload_n 0, 1) := by decide +kernel
theorem dX5_know_70 : decode cX5_know 70 = .ok (.getfield 7, 3) := by decide +kernel
theorem dX5_know_73 : decode cX5_know 73 = .ok (.iload_n 1, 1) := by decide +kernel
theorem dX5_know_74 : decode cX5_know 74 = .ok (.iaload, 1) := by decide +kernel
theorem dX5_know_75 : decode cX5_know 75 = .ok (.iastore, 1) := by decide +kernel
theorem dX5_know_76 : decode cX5_know 76 = .ok (.iinc 1 1, 3) := by decide +kernel
theorem dX5_know_79 : decode cX5_know 79 = .ok (.goto (-29), 3) := by decide +kernel
theorem dX5_know_82 : decode cX5_know 82 = .ok (.aload_n 0, 1) := by decide +kernel
theorem dX5_know_83 : decode cX5_know 83 = .ok (.dup, 1) := by decide +kernel
theorem dX5_know_84 : decode cX5_know 84 = .ok (.getfield 52, 3) := by decide +kernel
theorem dX5_know_87 : decode cX5_know 87 = .ok (.iconst 1, 1) := by decide +kernel
theorem dX5_know_88 : decode cX5_know 88 = .ok (.iadd, 1) := by decide +kernel
theorem dX5_know_89 : decode cX5_know 89 = .ok (.putfield 52, 3) := by decide +kernel
theorem dX5_know_92 : decode cX5_know 92 = .ok (.return_, 1) := by decide +kernel
theorem dX5_bitsOf_0 : decode cX5_bitsOf 0 = .ok (.iconst 0, 1) := by decide +kernel
theorem dX5_bitsOf_1 : decode cX5_bitsOf 1 = .ok (.istore_n 2, 1) := by decide +kernel
theorem dX5_bitsOf_2 : decode cX5_bitsOf 2 = .ok (.iconst 0, 1) := by decide +kernel
theorem dX5_bitsOf_3 : decode cX5_bitsOf 3 = .ok (.istore_n 3, 1) := by decide +kernel
theorem dX5_bitsOf_4 : decode cX5_bitsOf 4 = .ok (.iload_n 3, 1) := by decide +kernel
theorem dX5_bitsOf_5 : decode cX5_bitsOf 5 = .ok (.bipush 64, 2) := by decide +kernel
theorem dX5_bitsOf_7 : decode cX5_bitsOf 7 = .ok (.if_icmp .ge 18, 3) := by decide +kernel
theorem dX5_bitsOf_10 : decode cX5_bitsOf 10 = .ok (.iload_n 2, 1) := by decide +kernel
theorem dX5_bitsOf_11 : decode cX5_bitsOf 11 = .ok (.lload_n 0, 1) := by decide +kernel
theorem dX5_bitsOf_12 : decode cX5_bitsOf 12 = .ok (.iload_n 3, 1) := by decide +kernel
theorem dX5_bitsOf_13 : decode cX5_bitsOf 13 = .ok (.lushr, 1) := by decide +kernel
theorem dX5_bitsOf_14 : decode cX5_bitsOf 14 = .ok (.lconst 1, 1) := by decide +kernel
theorem dX5_bitsOf_15 : decode cX5_bitsOf 15 = .ok (.land, 1) := by decide +kernel
theorem dX5_bitsOf_16 : decode cX5_bitsOf 16 = .ok (.l2i, 1) := by decide +kernel
theorem dX5_bitsOf_17 : decode cX5_bitsOf 17 = .ok (.iadd, 1) := by decide +kernel
theorem dX5_bitsOf_18 : decode cX5_bitsOf 18 = .ok (.istore_n 2, 1) := by decide +kernel
theorem dX5_bitsOf_19 : decode cX5_bitsOf 19 = .ok (.iinc 3 1, 3) := by decide +kernel
theorem dX5_bitsOf_22 : decode cX5_bitsOf 22 = .ok (.goto (-18), 3) := by decide +kernel
theorem dX5_bitsOf_25 : decode cX5_bitsOf 25 = .ok (.iload_n 2, 1) := by decide +kernel
theorem dX5_bitsOf_26 : decode cX5_bitsOf 26 = .ok (.ireturn, 1) := by decide +kernel
theorem dX5_worldsOf_0 : decode cX5_worldsOf 0 = .ok (.lconst 0, 1) := by decide +kernel
theorem dX5_worldsOf_1 : decode cX5_worldsOf 1 = .ok (.lstore_n 1, 1) := by decide +kernel
theorem dX5_worldsOf_2 : decode cX5_worldsOf 2 = .ok (.iconst 0, 1) := by decide +kernel
theorem dX5_worldsOf_3 : decode cX5_worldsOf 3 = .ok (.istore_n 3, 1) := by decide +kernel
theorem dX5_worldsOf_4 : decode cX5_worldsOf 4 = .ok (.iload_n 3, 1) := by decide +kernel
theorem dX5_worldsOf_5 : decode cX5_worldsOf 5 = .ok (.bipush 64, 2) := by decide +kernel
theorem dX5_worldsOf_7 : decode cX5_worldsOf 7 = .ok (.if_icmp .ge 28, 3) := by decide +kernel
theorem dX5_worldsOf_10 : decode cX5_worldsOf 10 = .ok (.lload_n 1, 1) := by decide +kernel
theorem dX5_worldsOf_11 : decode cX5_worldsOf 11 = .ok (.iload_n 3, 1) := by decide +kernel
theorem dX5_worldsOf_12 : decode cX5_worldsOf 12 = .ok (.iload_n 0, 1) := by decide +kernel
theorem dX5_worldsOf_13 : decode cX5_worldsOf 13 = .ok (.ishr, 1) := by decide +kernel
theorem dX5_worldsOf_14 : decode cX5_worldsOf 14 = .ok (.iconst 1, 1) := by decide +kernel
theorem dX5_worldsOf_15 : decode cX5_worldsOf 15 = .ok (.iand, 1) := by decide +kernel
theorem dX5_worldsOf_16 : decode cX5_worldsOf 16 = .ok (.iconst 1, 1) := by decide +kernel
theorem dX5_worldsOf_17 : decode cX5_worldsOf 17 = .ok (.if_icmp .ne 9, 3) := by decide +kernel
theorem dX5_worldsOf_20 : decode cX5_worldsOf 20 = .ok (.lconst 1, 1) := by decide +kernel
theorem dX5_worldsOf_21 : decode cX5_worldsOf 21 = .ok (.iload_n 3, 1) := by decide +kernel
theorem dX5_worldsOf_22 : decode cX5_worldsOf 22 = .ok (.lshl, 1) := by decide +kernel
theorem dX5_worldsOf_23 : decode cX5_worldsOf 23 = .ok (.goto 4, 3) := by decide +kernel
theorem dX5_worldsOf_26 : decode cX5_worldsOf 26 = .ok (.lconst 0, 1) := by decide +kernel
theorem dX5_worldsOf_27 : decode cX5_worldsOf 27 = .ok (.lor, 1) := by decide +kernel
theorem dX5_worldsOf_28 : decode cX5_worldsOf 28 = .ok (.lstore_n 1, 1) := by decide +kernel
theorem dX5_worldsOf_29 : decode cX5_worldsOf 29 = .ok (.iinc 3 1, 3) := by decide +kernel
theorem dX5_worldsOf_32 : decode cX5_worldsOf 32 = .ok (.goto (-28), 3) := by decide +kernel
theorem dX5_worldsOf_35 : decode cX5_worldsOf 35 = .ok (.lload_n 1, 1) := by decide +kernel
theorem dX5_worldsOf_36 : decode cX5_worldsOf 36 = .ok (.lreturn, 1) := by decide +kernel
set_option maxRecDepth 20000 in
theorem ggX5_worldsOfClause_X5_truths : GoodIn wsX5_worldsOfClause wsX5_truths := goodIn_r _ [5] (by decide +kernel) (by decide +kernel)
set_option maxRecDepth 20000 in
theorem gX5_worldsOfClause_X5_truths : GoodIn wsX5_worldsOfClause (va_wsS RX5 56 yX5_truths wsX5_truths) := goodIn_app (goodIn_of _ (by decide +kernel)) ggX5_worldsOfClause_X5_truths
theorem dX5_worldsOfClause_0 : decode cX5_worldsOfClause 0 = .ok (.aload_n 0, 1) := by decide +kernel
theorem dX5_worldsOfClause_1 : decode cX5_worldsOfClause 1 = .ok (.getfield 7, 3) := by decide +kernel
theorem dX5_worldsOfClause_4 : decode cX5_worldsOfClause 4 = .ok (.bipush 25, 2) := by decide +kernel
theorem dX5_worldsOfClause_6 : decode cX5_worldsOfClause 6 = .ok (.iload_n 1, 1) := by decide +kernel
theorem dX5_worldsOfClause_7 : decode cX5_worldsOfClause 7 = .ok (.iadd, 1) := by decide +kernel
theorem dX5_worldsOfClause_8 : decode cX5_worldsOfClause 8 = .ok (.iaload, 1) := by decide +kernel
theorem dX5_worldsOfClause_9 : decode cX5_worldsOfClause 9 = .ok (.aload_n 0, 1) := by decide +kernel
theorem dX5_worldsOfClause_10 : decode cX5_worldsOfClause 10 = .ok (.getfield 7, 3) := by decide +kernel
theorem dX5_worldsOfClause_13 : decode cX5_worldsOfClause 13 = .ok (.bipush 49, 2) := by decide +kernel
theorem dX5_worldsOfClause_15 : decode cX5_worldsOfClause 15 = .ok (.iload_n 1, 1) := by decide +kernel
theorem dX5_worldsOfClause_16 : decode cX5_worldsOfClause 16 = .ok (.iadd, 1) := by decide +kernel
theorem dX5_worldsOfClause_17 : decode cX5_worldsOfClause 17 = .ok (.iaload, 1) := by decide +kernel
theorem dX5_worldsOfClause_18 : decode cX5_worldsOfClause 18 = .ok (.bipush 63, 2) := by decide +kernel
theorem dX5_worldsOfClause_20 : decode cX5_worldsOfClause 20 = .ok (.invokestatic 56, 3) := by decide +kernel
theorem dX5_worldsOfClause_23 : decode cX5_worldsOfClause 23 = .ok (.lreturn, 1) := by decide +kernel
theorem dX5_truths_0 : decode cX5_truths 0 = .ok (.lconst 0, 1) := by decide +kernel
theorem dX5_truths_1 : decode cX5_truths 1 = .ok (.lstore_n 3, 1) := by decide +kernel
theorem dX5_truths_2 : decode cX5_truths 2 = .ok (.iconst 0, 1) := by decide +kernel
theorem dX5_truths_3 : decode cX5_truths 3 = .ok (.istore 5, 2) := by decide +kernel
theorem dX5_truths_5 : decode cX5_truths 5 = .ok (.iload 5, 2) := by decide +kernel
theorem dX5_truths_7 : decode cX5_truths 7 = .ok (.bipush 64, 2) := by decide +kernel
theorem dX5_truths_9 : decode cX5_truths 9 = .ok (.if_icmp .ge 36, 3) := by decide +kernel
theorem dX5_truths_12 : decode cX5_truths 12 = .ok (.lload_n 3, 1) := by decide +kernel
theorem dX5_truths_13 : decode cX5_truths 13 = .ok (.iload 5, 2) := by decide +kernel
theorem dX5_truths_15 : decode cX5_truths 15 = .ok (.iload_n 0, 1) := by decide +kernel
theorem dX5_truths_16 : decode cX5_truths 16 = .ok (.iand, 1) := by decide +kernel
theorem dX5_truths_17 : decode cX5_truths 17 = .ok (.iload 5, 2) := by decide +kernel
theorem dX5_truths_19 : decode cX5_truths 19 = .ok (.iconst (-1), 1) := by decide +kernel
theorem dX5_truths_20 : decode cX5_truths 20 = .ok (.ixor, 1) := by decide +kernel
theorem dX5_truths_21 : decode cX5_truths 21 = .ok (.iload_n 1, 1) := by decide +kernel
theorem dX5_truths_22 : decode cX5_truths 22 = .ok (.iand, 1) := by decide +kernel
theorem dX5_truths_23 : decode cX5_truths 23 = .ok (.ior, 1) := by decide +kernel
theorem dX5_truths_24 : decode cX5_truths 24 = .ok (.iload_n 2, 1) := by decide +kernel
theorem dX5_truths_25 : decode cX5_truths 25 = .ok (.iand, 1) := by decide +kernel
theorem dX5_truths_26 : decode cX5_truths 26 = .ok (.ifCond .eq 10, 3) := by decide +kernel
theorem dX5_truths_29 : decode cX5_truths 29 = .ok (.lconst 1, 1) := by decide +kernel
theorem dX5_truths_30 : decode cX5_truths 30 = .ok (.iload 5, 2) := by decide +kernel
theorem dX5_truths_32 : decode cX5_truths 32 = .ok (.lshl, 1) := by decide +kernel
theorem dX5_truths_33 : decode cX5_truths 33 = .ok (.goto 4, 3) := by decide +kernel
theorem dX5_truths_36 : decode cX5_truths 36 = .ok (.lconst 0, 1) := by decide +kernel
theorem dX5_truths_37 : decode cX5_truths 37 = .ok (.lor, 1) := by decide +kernel
theorem dX5_truths_38 : decode cX5_truths 38 = .ok (.lstore_n 3, 1) := by decide +kernel
theorem dX5_truths_39 : decode cX5_truths 39 = .ok (.iinc 5 1, 3) := by decide +kernel
theorem dX5_truths_42 : decode cX5_truths 42 = .ok (.goto (-37), 3) := by decide +kernel
theorem dX5_truths_45 : decode cX5_truths 45 = .ok (.lload_n 3, 1) := by decide +kernel
theorem dX5_truths_46 : decode cX5_truths 46 = .ok (.lreturn, 1) := by decide +kernel
set_option maxRecDepth 20000 in
theorem ggX5_worldsOfSide_X5_worldsOfClause : GoodIn wsX5_worldsOfSide wsX5_worldsOfClause := goodIn_r _ [7, 2, 8, 9, 6, 10, 11, 12, 13, 14, 15, 16, 17, 18, 19, 20, 21, 22, 23, 24, 25, 26, 27, 28, 29, 30, 31, 32] (by decide +kernel) (by decide +kernel)
set_option maxRecDepth 20000 in
theorem gX5_worldsOfSide_X5_worldsOfClause : GoodIn wsX5_worldsOfSide (wsV RX5 62 RX5 yX5_worldsOfClause wsX5_worldsOfClause) := goodIn_app (goodIn_of _ (by decide +kernel)) ggX5_worldsOfSide_X5_worldsOfClause
theorem dX5_worldsOfSide_0 : decode cX5_worldsOfSide 0 = .ok (.ldc2_w 60, 3) := by decide +kernel
theorem dX5_worldsOfSide_3 : decode cX5_worldsOfSide 3 = .ok (.lstore_n 2, 1) := by decide +kernel
theorem dX5_worldsOfSide_4 : decode cX5_worldsOfSide 4 = .ok (.iconst 0, 1) := by decide +kernel
theorem dX5_worldsOfSide_5 : decode cX5_worldsOfSide 5 = .ok (.istore 4, 2) := by decide +kernel
theorem dX5_worldsOfSide_7 : decode cX5_worldsOfSide 7 = .ok (.iload 4, 2) := by decide +kernel
theorem dX5_worldsOfSide_9 : decode cX5_worldsOfSide 9 = .ok (.aload_n 0, 1) := by decide +kernel
theorem dX5_worldsOfSide_10 : decode cX5_worldsOfSide 10 = .ok (.getfield 7, 3) := by decide +kernel
theorem dX5_worldsOfSide_13 : decode cX5_worldsOfSide 13 = .ok (.iconst 0, 1) := by decide +kernel
theorem dX5_worldsOfSide_14 : decode cX5_worldsOfSide 14 = .ok (.iaload, 1) := by decide +kernel
theorem dX5_worldsOfSide_15 : decode cX5_worldsOfSide 15 = .ok (.if_icmp .ge 37, 3) := by decide +kernel
theorem dX5_worldsOfSide_18 : decode cX5_worldsOfSide 18 = .ok (.lload_n 2, 1) := by decide +kernel
theorem dX5_worldsOfSide_19 : decode cX5_worldsOfSide 19 = .ok (.aload_n 0, 1) := by decide +kernel
theorem dX5_worldsOfSide_20 : decode cX5_worldsOfSide 20 = .ok (.getfield 7, 3) := by decide +kernel
theorem dX5_worldsOfSide_23 : decode cX5_worldsOfSide 23 = .ok (.iconst 1, 1) := by decide +kernel
theorem dX5_worldsOfSide_24 : decode cX5_worldsOfSide 24 = .ok (.iload 4, 2) := by decide +kernel
theorem dX5_worldsOfSide_26 : decode cX5_worldsOfSide 26 = .ok (.iadd, 1) := by decide +kernel
theorem dX5_worldsOfSide_27 : decode cX5_worldsOfSide 27 = .ok (.iaload, 1) := by decide +kernel
theorem dX5_worldsOfSide_28 : decode cX5_worldsOfSide 28 = .ok (.iload_n 1, 1) := by decide +kernel
theorem dX5_worldsOfSide_29 : decode cX5_worldsOfSide 29 = .ok (.if_icmp .ne 12, 3) := by decide +kernel
theorem dX5_worldsOfSide_32 : decode cX5_worldsOfSide 32 = .ok (.aload_n 0, 1) := by decide +kernel
theorem dX5_worldsOfSide_33 : decode cX5_worldsOfSide 33 = .ok (.iload 4, 2) := by decide +kernel
theorem dX5_worldsOfSide_35 : decode cX5_worldsOfSide 35 = .ok (.invokevirtual 62, 3) := by decide +kernel
theorem dX5_worldsOfSide_38 : decode cX5_worldsOfSide 38 = .ok (.goto 6, 3) := by decide +kernel
theorem dX5_worldsOfSide_41 : decode cX5_worldsOfSide 41 = .ok (.ldc2_w 60, 3) := by decide +kernel
theorem dX5_worldsOfSide_44 : decode cX5_worldsOfSide 44 = .ok (.land, 1) := by decide +kernel
theorem dX5_worldsOfSide_45 : decode cX5_worldsOfSide 45 = .ok (.lstore_n 2, 1) := by decide +kernel
theorem dX5_worldsOfSide_46 : decode cX5_worldsOfSide 46 = .ok (.iinc 4 1, 3) := by decide +kernel
theorem dX5_worldsOfSide_49 : decode cX5_worldsOfSide 49 = .ok (.goto (-42), 3) := by decide +kernel
theorem dX5_worldsOfSide_52 : decode cX5_worldsOfSide 52 = .ok (.lload_n 2, 1) := by decide +kernel
theorem dX5_worldsOfSide_53 : decode cX5_worldsOfSide 53 = .ok (.lreturn, 1) := by decide +kernel
theorem dX5_knownTo_0 : decode cX5_knownTo 0 = .ok (.iconst 0, 1) := by decide +kernel
theorem dX5_knownTo_1 : decode cX5_knownTo 1 = .ok (.istore_n 2, 1) := by decide +kernel
theorem dX5_knownTo_2 : decode cX5_knownTo 2 = .ok (.iconst 0, 1) := by decide +kernel
theorem dX5_knownTo_3 : decode cX5_knownTo 3 = .ok (.istore_n 3, 1) := by decide +kernel
theorem dX5_knownTo_4 : decode cX5_knownTo 4 = .ok (.iload_n 3, 1) := by decide +kernel
theorem dX5_knownTo_5 : decode cX5_knownTo 5 = .ok (.aload_n 0, 1) := by decide +kernel
theorem dX5_knownTo_6 : decode cX5_knownTo 6 = .ok (.getfield 7, 3) := by decide +kernel
theorem dX5_knownTo_9 : decode cX5_knownTo 9 = .ok (.iconst 0, 1) := by decide +kernel
theorem dX5_knownTo_10 : decode cX5_knownTo 10 = .ok (.iaload, 1) := by decide +kernel
theorem dX5_knownTo_11 : decode cX5_knownTo 11 = .ok (.if_icmp .ge 47, 3) := by decide +kernel
theorem dX5_knownTo_14 : decode cX5_knownTo 14 = .ok (.iload_n 2, 1) := by decide +kernel
theorem dX5_knownTo_15 : decode cX5_knownTo 15 = .ok (.aload_n 0, 1) := by decide +kernel
theorem dX5_knownTo_16 : decode cX5_knownTo 16 = .ok (.getfield 7, 3) := by decide +kernel
theorem dX5_knownTo_19 : decode cX5_knownTo 19 = .ok (.iconst 1, 1) := by decide +kernel
theorem dX5_knownTo_20 : decode cX5_knownTo 20 = .ok (.iload_n 3, 1) := by decide +kernel
theorem dX5_knownTo_21 : decode cX5_knownTo 21 = .ok (.iadd, 1) := by decide +kernel
theorem dX5_knownTo_22 : decode cX5_knownTo 22 = .ok (.iaload, 1) := by decide +kernel
theorem dX5_knownTo_23 : decode cX5_knownTo 23 = .ok (.iload_n 1, 1) := by decide +kernel
theorem dX5_knownTo_24 : decode cX5_knownTo 24 = .ok (.if_icmp .ne 25, 3) := by decide +kernel
theorem dX5_knownTo_27 : decode cX5_knownTo 27 = .ok (.aload_n 0, 1) := by decide +kernel
theorem dX5_knownTo_28 : decode cX5_knownTo 28 = .ok (.getfield 7, 3) := by decide +kernel
theorem dX5_knownTo_31 : decode cX5_knownTo 31 = .ok (.bipush 25, 2) := by decide +kernel
theorem dX5_knownTo_33 : decode cX5_knownTo 33 = .ok (.iload_n 3, 1) := by decide +kernel
theorem dX5_knownTo_34 : decode cX5_knownTo 34 = .ok (.iadd, 1) := by decide +kernel
theorem dX5_knownTo_35 : decode cX5_knownTo 35 = .ok (.iaload, 1) := by decide +kernel
theorem dX5_knownTo_36 : decode cX5_knownTo 36 = .ok (.aload_n 0, 1) := by decide +kernel
theorem dX5_knownTo_37 : decode cX5_knownTo 37 = .ok (.getfield 7, 3) := by decide +kernel
theorem dX5_knownTo_40 : decode cX5_knownTo 40 = .ok (.bipush 49, 2) := by decide +kernel
theorem dX5_knownTo_42 : decode cX5_knownTo 42 = .ok (.iload_n 3, 1) := by decide +kernel
theorem dX5_knownTo_43 : decode cX5_knownTo 43 = .ok (.iadd, 1) := by decide +kernel
theorem dX5_knownTo_44 : decode cX5_knownTo 44 = .ok (.iaload, 1) := by decide +kernel
theorem dX5_knownTo_45 : decode cX5_knownTo 45 = .ok (.ior, 1) := by decide +kernel
theorem dX5_knownTo_46 : decode cX5_knownTo 46 = .ok (.goto 4, 3) := by decide +kernel
theorem dX5_knownTo_49 : decode cX5_knownTo 49 = .ok (.iconst 0, 1) := by decide +kernel
theorem dX5_knownTo_50 : decode cX5_knownTo 50 = .ok (.ior, 1) := by decide +kernel
theorem dX5_knownTo_51 : decode cX5_knownTo 51 = .ok (.istore_n 2, 1) := by decide +kernel
theorem dX5_knownTo_52 : decode cX5_knownTo 52 = .ok (.iinc 3 1, 3) := by decide +kernel
theorem dX5_knownTo_55 : decode cX5_knownTo 55 = .ok (.goto (-51), 3) := by decide +kernel
theorem dX5_knownTo_58 : decode cX5_knownTo 58 = .ok (.iload_n 2, 1) := by decide +kernel
theorem dX5_knownTo_59 : decode cX5_knownTo 59 = .ok (.ireturn, 1) := by decide +kernel
set_option maxRecDepth 20000 in
theorem ggX5_shared_X5_knownTo : GoodIn wsX5_shared wsX5_knownTo := goodIn_r _ [5, 6, 7, 8, 9, 10, 11, 12, 13, 14, 15, 16, 17, 18, 19, 20, 21, 22, 23, 24, 25, 26, 27, 28] (by decide +kernel) (by decide +kernel)
set_option maxRecDepth 20000 in
theorem gX5_shared_X5_knownTo : GoodIn wsX5_shared (wsV RX5 66 RX5 yX5_knownTo wsX5_knownTo) := goodIn_app (goodIn_of _ (by decide +kernel)) ggX5_shared_X5_knownTo
theorem dX5_shared_0 : decode cX5_shared 0 = .ok (.aload_n 0, 1) := by decide +kernel
theorem dX5_shared_1 : decode cX5_shared 1 = .ok (.iconst 0, 1) := by decide +kernel
theorem dX5_shared_2 : decode cX5_shared 2 = .ok (.invokevirtual 66, 3) := by decide +kernel
theorem dX5_shared_5 : decode cX5_shared 5 = .ok (.aload_n 0, 1) := by decide +kernel
theorem dX5_shared_6 : decode cX5_shared 6 = .ok (.iconst 1, 1) := by decide +kernel
theorem dX5_shared_7 : decode cX5_shared 7 = .ok (.invokevirtual 66, 3) := by decide +kernel
theorem dX5_shared_10 : decode cX5_shared 10 = .ok (.iand, 1) := by decide +kernel
theorem dX5_shared_11 : decode cX5_shared 11 = .ok (.ireturn, 1) := by decide +kernel
set_option maxRecDepth 20000 in
theorem ggX5_clash_X5_worldsOfSide : GoodIn wsX5_clash wsX5_worldsOfSide := goodIn_r _ [5, 6, 7, 8, 9, 10, 4, 11, 12, 13, 14, 15, 16, 17, 18, 19, 20, 21, 22, 23, 24, 25, 26, 27, 28, 29, 30, 31, 32, 33, 34, 35, 36] (by decide +kernel) (by decide +kernel)
set_option maxRecDepth 20000 in
theorem gX5_clash_X5_worldsOfSide : GoodIn wsX5_clash (wsV RX5 70 RX5 yX5_worldsOfSide wsX5_worldsOfSide) := goodIn_app (goodIn_of _ (by decide +kernel)) ggX5_clash_X5_worldsOfSide
theorem dX5_clash_0 : decode cX5_clash 0 = .ok (.aload_n 0, 1) := by decide +kernel
theorem dX5_clash_1 : decode cX5_clash 1 = .ok (.iconst 0, 1) := by decide +kernel
theorem dX5_clash_2 : decode cX5_clash 2 = .ok (.invokevirtual 70, 3) := by decide +kernel
theorem dX5_clash_5 : decode cX5_clash 5 = .ok (.aload_n 0, 1) := by decide +kernel
theorem dX5_clash_6 : decode cX5_clash 6 = .ok (.iconst 1, 1) := by decide +kernel
theorem dX5_clash_7 : decode cX5_clash 7 = .ok (.invokevirtual 70, 3) := by decide +kernel
theorem dX5_clash_10 : decode cX5_clash 10 = .ok (.land, 1) := by decide +kernel
theorem dX5_clash_11 : decode cX5_clash 11 = .ok (.lconst 0, 1) := by decide +kernel
theorem dX5_clash_12 : decode cX5_clash 12 = .ok (.lcmp, 1) := by decide +kernel
theorem dX5_clash_13 : decode cX5_clash 13 = .ok (.ifCond .ne 7, 3) := by decide +kernel
theorem dX5_clash_16 : decode cX5_clash 16 = .ok (.iconst 1, 1) := by decide +kernel
theorem dX5_clash_17 : decode cX5_clash 17 = .ok (.goto 4, 3) := by decide +kernel
theorem dX5_clash_20 : decode cX5_clash 20 = .ok (.iconst 0, 1) := by decide +kernel
theorem dX5_clash_21 : decode cX5_clash 21 = .ok (.ireturn, 1) := by decide +kernel
set_option maxRecDepth 20000 in
theorem ggX5_spread_X5_shared : GoodIn wsX5_spread wsX5_shared := goodIn_r _ [5, 6, 7, 8, 4, 9, 10, 11, 12, 13, 14, 15, 16, 17, 18, 19, 20, 21, 22, 23, 24, 25, 26, 27, 28, 29, 30, 31, 32] (by decide +kernel) (by decide +kernel)
set_option maxRecDepth 20000 in
theorem gX5_spread_X5_shared : GoodIn wsX5_spread (wsV RX5 73 RX5 yX5_shared wsX5_shared) := goodIn_app (goodIn_of _ (by decide +kernel)) ggX5_spread_X5_shared
theorem dX5_spread_0 : decode cX5_spread 0 = .ok (.aload_n 0, 1) := by decide +kernel
theorem dX5_spread_1 : decode cX5_spread 1 = .ok (.invokevirtual 73, 3) := by decide +kernel
theorem dX5_spread_4 : decode cX5_spread 4 = .ok (.istore_n 3, 1) := by decide +kernel
theorem dX5_spread_5 : decode cX5_spread 5 = .ok (.lconst 0, 1) := by decide +kernel
theorem dX5_spread_6 : decode cX5_spread 6 = .ok (.lstore 4, 2) := by decide +kernel
theorem dX5_spread_8 : decode cX5_spread 8 = .ok (.iconst 0, 1) := by decide +kernel
theorem dX5_spread_9 : decode cX5_spread 9 = .ok (.istore 6, 2) := by decide +kernel
theorem dX5_spread_11 : decode cX5_spread 11 = .ok (.iload 6, 2) := by decide +kernel
theorem dX5_spread_13 : decode cX5_spread 13 = .ok (.bipush 64, 2) := by decide +kernel
theorem dX5_spread_15 : decode cX5_spread 15 = .ok (.if_icmp .ge 59, 3) := by decide +kernel
theorem dX5_spread_18 : decode cX5_spread 18 = .ok (.iconst 0, 1) := by decide +kernel
theorem dX5_spread_19 : decode cX5_spread 19 = .ok (.istore 7, 2) := by decide +kernel
theorem dX5_spread_21 : decode cX5_spread 21 = .ok (.iload 7, 2) := by decide +kernel
theorem dX5_spread_23 : decode cX5_spread 23 = .ok (.bipush 64, 2) := by decide +kernel
theorem dX5_spread_25 : decode cX5_spread 25 = .ok (.if_icmp .ge 43, 3) := by decide +kernel
theorem dX5_spread_28 : decode cX5_spread 28 = .ok (.lload 4, 2) := by decide +kernel
theorem dX5_spread_30 : decode cX5_spread 30 = .ok (.lload_n 1, 1) := by decide +kernel
theorem dX5_spread_31 : decode cX5_spread 31 = .ok (.iload 7, 2) := by decide +kernel
theorem dX5_spread_33 : decode cX5_spread 33 = .ok (.lushr, 1) := by decide +kernel
theorem dX5_spread_34 : decode cX5_spread 34 = .ok (.lconst 1, 1) := by decide +kernel
theorem dX5_spread_35 : decode cX5_spread 35 = .ok (.land, 1) := by decide +kernel
theorem dX5_spread_36 : decode cX5_spread 36 = .ok (.lconst 1, 1) := by decide +kernel
theorem dX5_spread_37 : decode cX5_spread 37 = .ok (.lcmp, 1) := by decide +kernel
theorem dX5_spread_38 : decode cX5_spread 38 = .ok (.ifCond .ne 20, 3) := by decide +kernel
theorem dX5_spread_41 : decode cX5_spread 41 = .ok (.iload 7, 2) := by decide +kernel
theorem dX5_spread_43 : decode cX5_spread 43 = .ok (.iload 6, 2) := by decide +kernel
theorem dX5_spread_45 : decode cX5_spread 45 = .ok (.ixor, 1) := by decide +kernel
theorem dX5_spread_46 : decode cX5_spread 46 = .ok (.iload_n 3, 1) := by decide +kernel
theorem dX5_spread_47 : decode cX5_spread 47 = .ok (.iand, 1) := by decide +kernel
theorem dX5_spread_48 : decode cX5_spread 48 = .ok (.ifCond .ne 10, 3) := by decide +kernel
theorem dX5_spread_51 : decode cX5_spread 51 = .ok (.lconst 1, 1) := by decide +kernel
theorem dX5_spread_52 : decode cX5_spread 52 = .ok (.iload 6, 2) := by decide +kernel
theorem dX5_spread_54 : decode cX5_spread 54 = .ok (.lshl, 1) := by decide +kernel
theorem dX5_spread_55 : decode cX5_spread 55 = .ok (.goto 4, 3) := by decide +kernel
theorem dX5_spread_58 : decode cX5_spread 58 = .ok (.lconst 0, 1) := by decide +kernel
theorem dX5_spread_59 : decode cX5_spread 59 = .ok (.lor, 1) := by decide +kernel
theorem dX5_spread_60 : decode cX5_spread 60 = .ok (.lstore 4, 2) := by decide +kernel
theorem dX5_spread_62 : decode cX5_spread 62 = .ok (.iinc 7 1, 3) := by decide +kernel
theorem dX5_spread_65 : decode cX5_spread 65 = .ok (.goto (-44), 3) := by decide +kernel
theorem dX5_spread_68 : decode cX5_spread 68 = .ok (.iinc 6 1, 3) := by decide +kernel
theorem dX5_spread_71 : decode cX5_spread 71 = .ok (.goto (-60), 3) := by decide +kernel
theorem dX5_spread_74 : decode cX5_spread 74 = .ok (.lload 4, 2) := by decide +kernel
theorem dX5_spread_76 : decode cX5_spread 76 = .ok (.lreturn, 1) := by decide +kernel
theorem dX5_addStep_0 : decode cX5_addStep 0 = .ok (.aload_n 0, 1) := by decide +kernel
theorem dX5_addStep_1 : decode cX5_addStep 1 = .ok (.getfield 22, 3) := by decide +kernel
theorem dX5_addStep_4 : decode cX5_addStep 4 = .ok (.aload_n 0, 1) := by decide +kernel
theorem dX5_addStep_5 : decode cX5_addStep 5 = .ok (.getfield 77, 3) := by decide +kernel
theorem dX5_addStep_8 : decode cX5_addStep 8 = .ok (.iload_n 1, 1) := by decide +kernel
theorem dX5_addStep_9 : decode cX5_addStep 9 = .ok (.iastore, 1) := by decide +kernel
theorem dX5_addStep_10 : decode cX5_addStep 10 = .ok (.aload_n 0, 1) := by decide +kernel
theorem dX5_addStep_11 : decode cX5_addStep 11 = .ok (.getfield 25, 3) := by decide +kernel
theorem dX5_addStep_14 : decode cX5_addStep 14 = .ok (.aload_n 0, 1) := by decide +kernel
theorem dX5_addStep_15 : decode cX5_addStep 15 = .ok (.getfield 77, 3) := by decide +kernel
theorem dX5_addStep_18 : decode cX5_addStep 18 = .ok (.iload_n 2, 1) := by decide +kernel
theorem dX5_addStep_19 : decode cX5_addStep 19 = .ok (.iastore, 1) := by decide +kernel
theorem dX5_addStep_20 : decode cX5_addStep 20 = .ok (.aload_n 0, 1) := by decide +kernel
theorem dX5_addStep_21 : decode cX5_addStep 21 = .ok (.getfield 28, 3) := by decide +kernel
theorem dX5_addStep_24 : decode cX5_addStep 24 = .ok (.aload_n 0, 1) := by decide +kernel
theorem dX5_addStep_25 : decode cX5_addStep 25 = .ok (.getfield 77, 3) := by decide +kernel
theorem dX5_addStep_28 : decode cX5_addStep 28 = .ok (.iload_n 3, 1) := by decide +kernel
theorem dX5_addStep_29 : decode cX5_addStep 29 = .ok (.iastore, 1) := by decide +kernel
theorem dX5_addStep_30 : decode cX5_addStep 30 = .ok (.aload_n 0, 1) := by decide +kernel
theorem dX5_addStep_31 : decode cX5_addStep 31 = .ok (.getfield 31, 3) := by decide +kernel
theorem dX5_addStep_34 : decode cX5_addStep 34 = .ok (.aload_n 0, 1) := by decide +kernel
theorem dX5_addStep_35 : decode cX5_addStep 35 = .ok (.getfield 77, 3) := by decide +kernel
theorem dX5_addStep_38 : decode cX5_addStep 38 = .ok (.iload 4, 2) := by decide +kernel
theorem dX5_addStep_40 : decode cX5_addStep 40 = .ok (.iastore, 1) := by decide +kernel
theorem dX5_addStep_41 : decode cX5_addStep 41 = .ok (.aload_n 0, 1) := by decide +kernel
theorem dX5_addStep_42 : decode cX5_addStep 42 = .ok (.getfield 34, 3) := by decide +kernel
theorem dX5_addStep_45 : decode cX5_addStep 45 = .ok (.aload_n 0, 1) := by decide +kernel
theorem dX5_addStep_46 : decode cX5_addStep 46 = .ok (.getfield 77, 3) := by decide +kernel
theorem dX5_addStep_49 : decode cX5_addStep 49 = .ok (.iload 5, 2) := by decide +kernel
theorem dX5_addStep_51 : decode cX5_addStep 51 = .ok (.iastore, 1) := by decide +kernel
theorem dX5_addStep_52 : decode cX5_addStep 52 = .ok (.aload_n 0, 1) := by decide +kernel
theorem dX5_addStep_53 : decode cX5_addStep 53 = .ok (.getfield 37, 3) := by decide +kernel
theorem dX5_addStep_56 : decode cX5_addStep 56 = .ok (.aload_n 0, 1) := by decide +kernel
theorem dX5_addStep_57 : decode cX5_addStep 57 = .ok (.getfield 77, 3) := by decide +kernel
theorem dX5_addStep_60 : decode cX5_addStep 60 = .ok (.iconst 0, 1) := by decide +kernel
theorem dX5_addStep_61 : decode cX5_addStep 61 = .ok (.bastore, 1) := by decide +kernel
theorem dX5_addStep_62 : decode cX5_addStep 62 = .ok (.aload_n 0, 1) := by decide +kernel
theorem dX5_addStep_63 : decode cX5_addStep 63 = .ok (.getfield 41, 3) := by decide +kernel
theorem dX5_addStep_66 : decode cX5_addStep 66 = .ok (.bipush 64, 2) := by decide +kernel
theorem dX5_addStep_68 : decode cX5_addStep 68 = .ok (.iload_n 1, 1) := by decide +kernel
theorem dX5_addStep_69 : decode cX5_addStep 69 = .ok (.imul, 1) := by decide +kernel
theorem dX5_addStep_70 : decode cX5_addStep 70 = .ok (.iload_n 2, 1) := by decide +kernel
theorem dX5_addStep_71 : decode cX5_addStep 71 = .ok (.iadd, 1) := by decide +kernel
theorem dX5_addStep_72 : decode cX5_addStep 72 = .ok (.iconst 1, 1) := by decide +kernel
theorem dX5_addStep_73 : decode cX5_addStep 73 = .ok (.bastore, 1) := by decide +kernel
theorem dX5_addStep_74 : decode cX5_addStep 74 = .ok (.aload_n 0, 1) := by decide +kernel
theorem dX5_addStep_75 : decode cX5_addStep 75 = .ok (.dup, 1) := by decide +kernel
theorem dX5_addStep_76 : decode cX5_addStep 76 = .ok (.getfield 77, 3) := by decide +kernel
theorem dX5_addStep_79 : decode cX5_addStep 79 = .ok (.iconst 1, 1) := by decide +kernel
theorem dX5_addStep_80 : decode cX5_addStep 80 = .ok (.iadd, 1) := by decide +kernel
theorem dX5_addStep_81 : decode cX5_addStep 81 = .ok (.putfield 77, 3) := by decide +kernel
theorem dX5_addStep_84 : decode cX5_addStep 84 = .ok (.return_, 1) := by decide +kernel
theorem dX5_onlySign_0 : decode cX5_onlySign 0 = .ok (.bipush (-5), 2) := by decide +kernel
theorem dX5_onlySign_2 : decode cX5_onlySign 2 = .ok (.istore_n 1, 1) := by decide +kernel
theorem dX5_onlySign_3 : decode cX5_onlySign 3 = .ok (.iconst 0, 1) := by decide +kernel
theorem dX5_onlySign_4 : decode cX5_onlySign 4 = .ok (.istore_n 2, 1) := by decide +kernel
theorem dX5_onlySign_5 : decode cX5_onlySign 5 = .ok (.iload_n 2, 1) := by decide +kernel
theorem dX5_onlySign_6 : decode cX5_onlySign 6 = .ok (.bipush 6, 2) := by decide +kernel
theorem dX5_onlySign_8 : decode cX5_onlySign 8 = .ok (.if_icmp .ge 22, 3) := by decide +kernel
theorem dX5_onlySign_11 : decode cX5_onlySign 11 = .ok (.iload_n 0, 1) := by decide +kernel
theorem dX5_onlySign_12 : decode cX5_onlySign 12 = .ok (.iconst 1, 1) := by decide +kernel
theorem dX5_onlySign_13 : decode cX5_onlySign 13 = .ok (.iload_n 2, 1) := by decide +kernel
theorem dX5_onlySign_14 : decode cX5_onlySign 14 = .ok (.ishl, 1) := by decide +kernel
theorem dX5_onlySign_15 : decode cX5_onlySign 15 = .ok (.if_icmp .ne 7, 3) := by decide +kernel
theorem dX5_onlySign_18 : decode cX5_onlySign 18 = .ok (.iload_n 2, 1) := by decide +kernel
theorem dX5_onlySign_19 : decode cX5_onlySign 19 = .ok (.goto 4, 3) := by decide +kernel
theorem dX5_onlySign_22 : decode cX5_onlySign 22 = .ok (.iload_n 1, 1) := by decide +kernel
theorem dX5_onlySign_23 : decode cX5_onlySign 23 = .ok (.istore_n 1, 1) := by decide +kernel
theorem dX5_onlySign_24 : decode cX5_onlySign 24 = .ok (.iinc 2 1, 3) := by decide +kernel
theorem dX5_onlySign_27 : decode cX5_onlySign 27 = .ok (.goto (-22), 3) := by decide +kernel
theorem dX5_onlySign_30 : decode cX5_onlySign 30 = .ok (.iload_n 1, 1) := by decide +kernel
theorem dX5_onlySign_31 : decode cX5_onlySign 31 = .ok (.ireturn, 1) := by decide +kernel
set_option maxRecDepth 20000 in
theorem ggX5_prove_X5_addStep : GoodIn wsX5_prove wsX5_addStep := goodIn_r _ [15, 6, 2, 7, 9, 10, 16, 8, 1, 20, 21, 22, 23, 24, 25, 26, 27, 28, 29, 30, 31, 32, 33, 34, 35, 36, 37, 38, 39, 40, 41] (by decide +kernel) (by decide +kernel)
set_option maxRecDepth 20000 in
theorem gX5_prove_X5_addStep : GoodIn wsX5_prove (wsV RX5 87 RX5 yX5_addStep wsX5_addStep) := goodIn_app (goodIn_of _ (by decide +kernel)) ggX5_prove_X5_addStep
set_option maxRecDepth 20000 in
theorem ggX5_prove_X5_onlySign : GoodIn wsX5_prove wsX5_onlySign := goodIn_r _ [19] (by decide +kernel) (by decide +kernel)
set_option maxRecDepth 20000 in
theorem gX5_prove_X5_onlySign : GoodIn wsX5_prove (va_wsS RX5 91 yX5_onlySign wsX5_onlySign) := goodIn_app (goodIn_of _ (by decide +kernel)) ggX5_prove_X5_onlySign
theorem dX5_prove_0 : decode cX5_prove 0 = .ok (.iconst 0, 1) := by decide +kernel
theorem dX5_prove_1 : decode cX5_prove 1 = .ok (.istore_n 1, 1) := by decide +kernel
theorem dX5_prove_2 : decode cX5_prove 2 = .ok (.iload_n 1, 1) := by decide +kernel
theorem dX5_prove_3 : decode cX5_prove 3 = .ok (.sipush 4096, 3) := by decide +kernel
theorem dX5_prove_6 : decode cX5_prove 6 = .ok (.if_icmp .ge 16, 3) := by decide +kernel
theorem dX5_prove_9 : decode cX5_prove 9 = .ok (.aload_n 0, 1) := by decide +kernel
theorem dX5_prove_10 : decode cX5_prove 10 = .ok (.getfield 41, 3) := by decide +kernel
theorem dX5_prove_13 : decode cX5_prove 13 = .ok (.iload_n 1, 1) := by decide +kernel
theorem dX5_prove_14 : decode cX5_prove 14 = .ok (.iconst 0, 1) := by decide +kernel
theorem dX5_prove_15 : decode cX5_prove 15 = .ok (.bastore, 1) := by decide +kernel
theorem dX5_prove_16 : decode cX5_prove 16 = .ok (.iinc 1 1, 3) := by decide +kernel
theorem dX5_prove_19 : decode cX5_prove 19 = .ok (.goto (-17), 3) := by decide +kernel
theorem dX5_prove_22 : decode cX5_prove 22 = .ok (.aload_n 0, 1) := by decide +kernel
theorem dX5_prove_23 : decode cX5_prove 23 = .ok (.iconst 0, 1) := by decide +kernel
theorem dX5_prove_24 : decode cX5_prove 24 = .ok (.putfield 77, 3) := by decide +kernel
theorem dX5_prove_27 : decode cX5_prove 27 = .ok (.aload_n 0, 1) := by decide +kernel
theorem dX5_prove_28 : decode cX5_prove 28 = .ok (.bipush (-5), 2) := by decide +kernel
theorem dX5_prove_30 : decode cX5_prove 30 = .ok (.putfield 80, 3) := by decide +kernel
theorem dX5_prove_33 : decode cX5_prove 33 = .ok (.aload_n 0, 1) := by decide +kernel
theorem dX5_prove_34 : decode cX5_prove 34 = .ok (.iconst 1, 1) := by decide +kernel
theorem dX5_prove_35 : decode cX5_prove 35 = .ok (.putfield 83, 3) := by decide +kernel
theorem dX5_prove_38 : decode cX5_prove 38 = .ok (.iconst 0, 1) := by decide +kernel
theorem dX5_prove_39 : decode cX5_prove 39 = .ok (.istore_n 1, 1) := by decide +kernel
theorem dX5_prove_40 : decode cX5_prove 40 = .ok (.iload_n 1, 1) := by decide +kernel
theorem dX5_prove_41 : decode cX5_prove 41 = .ok (.aload_n 0, 1) := by decide +kernel
theorem dX5_prove_42 : decode cX5_prove 42 = .ok (.getfield 7, 3) := by decide +kernel
theorem dX5_prove_45 : decode cX5_prove 45 = .ok (.iconst 0, 1) := by decide +kernel
theorem dX5_prove_46 : decode cX5_prove 46 = .ok (.iaload, 1) := by decide +kernel
theorem dX5_prove_47 : decode cX5_prove 47 = .ok (.if_icmp .ge 37, 3) := by decide +kernel
theorem dX5_prove_50 : decode cX5_prove 50 = .ok (.aload_n 0, 1) := by decide +kernel
theorem dX5_prove_51 : decode cX5_prove 51 = .ok (.aload_n 0, 1) := by decide +kernel
theorem dX5_prove_52 : decode cX5_prove 52 = .ok (.getfield 7, 3) := by decide +kernel
theorem dX5_prove_55 : decode cX5_prove 55 = .ok (.bipush 25, 2) := by decide +kernel
theorem dX5_prove_57 : decode cX5_prove 57 = .ok (.iload_n 1, 1) := by decide +kernel
theorem dX5_prove_58 : decode cX5_prove 58 = .ok (.iadd, 1) := by decide +kernel
theorem dX5_prove_59 : decode cX5_prove 59 = .ok (.iaload, 1) := by decide +kernel
theorem dX5_prove_60 : decode cX5_prove 60 = .ok (.aload_n 0, 1) := by decide +kernel
theorem dX5_prove_61 : decode cX5_prove 61 = .ok (.getfield 7, 3) := by decide +kernel
theorem dX5_prove_64 : decode cX5_prove 64 = .ok (.bipush 49, 2) := by decide +kernel
theorem dX5_prove_66 : decode cX5_prove 66 = .ok (.iload_n 1, 1) := by decide +kernel
theorem dX5_prove_67 : decode cX5_prove 67 = .ok (.iadd, 1) := by decide +kernel
theorem dX5_prove_68 : decode cX5_prove 68 = .ok (.iaload, 1) := by decide +kernel
theorem dX5_prove_69 : decode cX5_prove 69 = .ok (.bipush (-5), 2) := by decide +kernel
theorem dX5_prove_71 : decode cX5_prove 71 = .ok (.bipush (-5), 2) := by decide +kernel
theorem dX5_prove_73 : decode cX5_prove 73 = .ok (.bipush (-5), 2) := by decide +kernel
theorem dX5_prove_75 : decode cX5_prove 75 = .ok (.invokevirtual 87, 3) := by decide +kernel
theorem dX5_prove_78 : decode cX5_prove 78 = .ok (.iinc 1 1, 3) := by decide +kernel
theorem dX5_prove_81 : decode cX5_prove 81 = .ok (.goto (-41), 3) := by decide +kernel
theorem dX5_prove_84 : decode cX5_prove 84 = .ok (.iconst 0, 1) := by decide +kernel
theorem dX5_prove_85 : decode cX5_prove 85 = .ok (.istore_n 1, 1) := by decide +kernel
theorem dX5_prove_86 : decode cX5_prove 86 = .ok (.iload_n 1, 1) := by decide +kernel
theorem dX5_prove_87 : decode cX5_prove 87 = .ok (.aload_n 0, 1) := by decide +kernel
theorem dX5_prove_88 : decode cX5_prove 88 = .ok (.getfield 77, 3) := by decide +kernel
theorem dX5_prove_91 : decode cX5_prove 91 = .ok (.if_icmp .ge 223, 3) := by decide +kernel
theorem dX5_prove_94 : decode cX5_prove 94 = .ok (.aload_n 0, 1) := by decide +kernel
theorem dX5_prove_95 : decode cX5_prove 95 = .ok (.getfield 80, 3) := by decide +kernel
theorem dX5_prove_98 : decode cX5_prove 98 = .ok (.bipush (-5), 2) := by decide +kernel
theorem dX5_prove_100 : decode cX5_prove 100 = .ok (.if_icmp .ne 214, 3) := by decide +kernel
theorem dX5_prove_103 : decode cX5_prove 103 = .ok (.aload_n 0, 1) := by decide +kernel
theorem dX5_prove_104 : decode cX5_prove 104 = .ok (.getfield 83, 3) := by decide +kernel
theorem dX5_prove_107 : decode cX5_prove 107 = .ok (.ifCond .eq 207, 3) := by decide +kernel
theorem dX5_prove_110 : decode cX5_prove 110 = .ok (.iconst 0, 1) := by decide +kernel
theorem dX5_prove_111 : decode cX5_prove 111 = .ok (.istore_n 2, 1) := by decide +kernel
theorem dX5_prove_112 : decode cX5_prove 112 = .ok (.iload_n 2, 1) := by decide +kernel
theorem dX5_prove_113 : decode cX5_prove 113 = .ok (.iload_n 1, 1) := by decide +kernel
theorem dX5_prove_114 : decode cX5_prove 114 = .ok (.if_icmp .ge 194, 3) := by decide +kernel
theorem dX5_prove_117 : decode cX5_prove 117 = .ok (.aload_n 0, 1) := by decide +kernel
theorem dX5_prove_118 : decode cX5_prove 118 = .ok (.getfield 80, 3) := by decide +kernel
theorem dX5_prove_121 : decode cX5_prove 121 = .ok (.bipush (-5), 2) := by decide +kernel
theorem dX5_prove_123 : decode cX5_prove 123 = .ok (.if_icmp .ne 185, 3) := by decide +kernel
theorem dX5_prove_126 : decode cX5_prove 126 = .ok (.aload_n 0, 1) := by decide +kernel
theorem dX5_prove_127 : decode cX5_prove 127 = .ok (.getfield 83, 3) := by decide +kernel
theorem dX5_prove_130 : decode cX5_prove 130 = .ok (.ifCond .eq 178, 3) := by decide +kernel
theorem dX5_prove_133 : decode cX5_prove 133 = .ok (.aload_n 0, 1) := by decide +kernel
theorem dX5_prove_134 : decode cX5_prove 134 = .ok (.getfield 22, 3) := by decide +kernel
theorem dX5_prove_137 : decode cX5_prove 137 = .ok (.iload_n 2, 1) := by decide +kernel
theorem dX5_prove_138 : decode cX5_prove 138 = .ok (.iaload, 1) := by decide +kernel
theorem dX5_prove_139 : decode cX5_prove 139 = .ok (.aload_n 0, 1) := by decide +kernel
theorem dX5_prove_140 : decode cX5_prove 140 = .ok (.getfield 25, 3) := by decide +kernel
theorem dX5_prove_143 : decode cX5_prove 143 = .ok (.iload_n 1, 1) := by decide +kernel
theorem dX5_prove_144 : decode cX5_prove 144 = .ok (.iaload, 1) := by decide +kernel
theorem dX5_prove_145 : decode cX5_prove 145 = .ok (.iand, 1) := by decide +kernel
theorem dX5_prove_146 : decode cX5_prove 146 = .ok (.aload_n 0, 1) := by decide +kernel
theorem dX5_prove_147 : decode cX5_prove 147 = .ok (.getfield 25, 3) := by decide +kernel
theorem dX5_prove_150 : decode cX5_prove 150 = .ok (.iload_n 2, 1) := by decide +kernel
theorem dX5_prove_151 : decode cX5_prove 151 = .ok (.iaload, 1) := by decide +kernel
theorem dX5_prove_152 : decode cX5_prove 152 = .ok (.aload_n 0, 1) := by decide +kernel
theorem dX5_prove_153 : decode cX5_prove 153 = .ok (.getfield 22, 3) := by decide +kernel
theorem dX5_prove_156 : decode cX5_prove 156 = .ok (.iload_n 1, 1) := by decide +kernel
theorem dX5_prove_157 : decode cX5_prove 157 = .ok (.iaload, 1) := by decide +kernel
theorem dX5_prove_158 : decode cX5_prove 158 = .ok (.iand, 1) := by decide +kernel
theorem dX5_prove_159 : decode cX5_prove 159 = .ok (.ior, 1) := by decide +kernel
theorem dX5_prove_160 : decode cX5_prove 160 = .ok (.invokestatic 91, 3) := by decide +kernel
theorem dX5_prove_163 : decode cX5_prove 163 = .ok (.istore_n 3, 1) := by decide +kernel
theorem dX5_prove_164 : decode cX5_prove 164 = .ok (.iload_n 3, 1) := by decide +kernel
theorem dX5_prove_165 : decode cX5_prove 165 = .ok (.bipush (-5), 2) := by decide +kernel
theorem dX5_prove_167 : decode cX5_prove 167 = .ok (.if_icmp .ne 7, 3) := by decide +kernel
theorem dX5_prove_170 : decode cX5_prove 170 = .ok (.iconst 0, 1) := by decide +kernel
theorem dX5_prove_171 : decode cX5_prove 171 = .ok (.goto 11, 3) := by decide +kernel
theorem dX5_prove_174 : decode cX5_prove 174 = .ok (.bipush 63, 2) := by decide +kernel
theorem dX5_prove_176 : decode cX5_prove 176 = .ok (.iconst 1, 1) := by decide +kernel
theorem dX5_prove_177 : decode cX5_prove 177 = .ok (.iload_n 3, 1) := by decide +kernel
theorem dX5_prove_178 : decode cX5_prove 178 = .ok (.ishl, 1) := by decide +kernel
theorem dX5_prove_179 : decode cX5_prove 179 = .ok (.iconst (-1), 1) := by decide +kernel
theorem dX5_prove_180 : decode cX5_prove 180 = .ok (.ixor, 1) := by decide +kernel
theorem dX5_prove_181 : decode cX5_prove 181 = .ok (.iand, 1) := by decide +kernel
theorem dX5_prove_182 : decode cX5_prove 182 = .ok (.istore 4, 2) := by decide +kernel
theorem dX5_prove_184 : decode cX5_prove 184 = .ok (.aload_n 0, 1) := by decide +kernel
theorem dX5_prove_185 : decode cX5_prove 185 = .ok (.getfield 22, 3) := by decide +kernel
theorem dX5_prove_188 : decode cX5_prove 188 = .ok (.iload_n 2, 1) := by decide +kernel
theorem dX5_prove_189 : decode cX5_prove 189 = .ok (.iaload, 1) := by decide +kernel
theorem dX5_prove_190 : decode cX5_prove 190 = .ok (.aload_n 0, 1) := by decide +kernel
theorem dX5_prove_191 : decode cX5_prove 191 = .ok (.getfield 22, 3) := by decide +kernel
theorem dX5_prove_194 : decode cX5_prove 194 = .ok (.iload_n 1, 1) := by decide +kernel
theorem dX5_prove_195 : decode cX5_prove 195 = .ok (.iaload, 1) := by decide +kernel
theorem dX5_prove_196 : decode cX5_prove 196 = .ok (.ior, 1) := by decide +kernel
theorem dX5_prove_197 : decode cX5_prove 197 = .ok (.iload 4, 2) := by decide +kernel
theorem dX5_prove_199 : decode cX5_prove 199 = .ok (.iand, 1) := by decide +kernel
theorem dX5_prove_200 : decode cX5_prove 200 = .ok (.istore 5, 2) := by decide +kernel
theorem dX5_prove_202 : decode cX5_prove 202 = .ok (.aload_n 0, 1) := by decide +kernel
theorem dX5_prove_203 : decode cX5_prove 203 = .ok (.getfield 25, 3) := by decide +kernel
theorem dX5_prove_206 : decode cX5_prove 206 = .ok (.iload_n 2, 1) := by decide +kernel
theorem dX5_prove_207 : decode cX5_prove 207 = .ok (.iaload, 1) := by decide +kernel
theorem dX5_prove_208 : decode cX5_prove 208 = .ok (.aload_n 0, 1) := by decide +kernel
theorem dX5_prove_209 : decode cX5_prove 209 = .ok (.getfield 25, 3) := by decide +kernel
theorem dX5_prove_212 : decode cX5_prove 212 = .ok (.iload_n 1, 1) := by decide +kernel
theorem dX5_prove_213 : decode cX5_prove 213 = .ok (.iaload, 1) := by decide +kernel
theorem dX5_prove_214 : decode cX5_prove 214 = .ok (.ior, 1) := by decide +kernel
theorem dX5_prove_215 : decode cX5_prove 215 = .ok (.iload 4, 2) := by decide +kernel
theorem dX5_prove_217 : decode cX5_prove 217 = .ok (.iand, 1) := by decide +kernel
theorem dX5_prove_218 : decode cX5_prove 218 = .ok (.istore 6, 2) := by decide +kernel
theorem dX5_prove_220 : decode cX5_prove 220 = .ok (.iload_n 3, 1) := by decide +kernel
theorem dX5_prove_221 : decode cX5_prove 221 = .ok (.bipush (-5), 2) := by decide +kernel
theorem dX5_prove_223 : decode cX5_prove 223 = .ok (.if_icmp .eq 79, 3) := by decide +kernel
theorem dX5_prove_226 : decode cX5_prove 226 = .ok (.aload_n 0, 1) := by decide +kernel
theorem dX5_prove_227 : decode cX5_prove 227 = .ok (.getfield 41, 3) := by decide +kernel
theorem dX5_prove_230 : decode cX5_prove 230 = .ok (.bipush 64, 2) := by decide +kernel
theorem dX5_prove_232 : decode cX5_prove 232 = .ok (.iload 5, 2) := by decide +kernel
theorem dX5_prove_234 : decode cX5_prove 234 = .ok (.imul, 1) := by decide +kernel
theorem dX5_prove_235 : decode cX5_prove 235 = .ok (.iload 6, 2) := by decide +kernel
theorem dX5_prove_237 : decode cX5_prove 237 = .ok (.iadd, 1) := by decide +kernel
theorem dX5_prove_238 : decode cX5_prove 238 = .ok (.baload, 1) := by decide +kernel
theorem dX5_prove_239 : decode cX5_prove 239 = .ok (.ifCond .ne 63, 3) := by decide +kernel
theorem dX5_prove_242 : decode cX5_prove 242 = .ok (.aload_n 0, 1) := by decide +kernel
theorem dX5_prove_243 : decode cX5_prove 243 = .ok (.aload_n 0, 1) := by decide +kernel
theorem dX5_prove_244 : decode cX5_prove 244 = .ok (.getfield 77, 3) := by decide +kernel
theorem dX5_prove_247 : decode cX5_prove 247 = .ok (.sipush 400, 3) := by decide +kernel
theorem dX5_prove_250 : decode cX5_prove 250 = .ok (.if_icmp .ge 7, 3) := by decide +kernel
theorem dX5_prove_253 : decode cX5_prove 253 = .ok (.iconst 1, 1) := by decide +kernel
theorem dX5_prove_254 : decode cX5_prove 254 = .ok (.goto 4, 3) := by decide +kernel
theorem dX5_prove_257 : decode cX5_prove 257 = .ok (.iconst 0, 1) := by decide +kernel
theorem dX5_prove_258 : decode cX5_prove 258 = .ok (.putfield 83, 3) := by decide +kernel
theorem dX5_prove_261 : decode cX5_prove 261 = .ok (.aload_n 0, 1) := by decide +kernel
theorem dX5_prove_262 : decode cX5_prove 262 = .ok (.getfield 83, 3) := by decide +kernel
theorem dX5_prove_265 : decode cX5_prove 265 = .ok (.ifCond .eq 37, 3) := by decide +kernel
theorem dX5_prove_268 : decode cX5_prove 268 = .ok (.aload_n 0, 1) := by decide +kernel
theorem dX5_prove_269 : decode cX5_prove 269 = .ok (.iload 5, 2) := by decide +kernel
theorem dX5_prove_271 : decode cX5_prove 271 = .ok (.iload 6, 2) := by decide +kernel
theorem dX5_prove_273 : decode cX5_prove 273 = .ok (.iload_n 2, 1) := by decide +kernel
theorem dX5_prove_274 : decode cX5_prove 274 = .ok (.iload_n 1, 1) := by decide +kernel
theorem dX5_prove_275 : decode cX5_prove 275 = .ok (.iload_n 3, 1) := by decide +kernel
theorem dX5_prove_276 : decode cX5_prove 276 = .ok (.invokevirtual 87, 3) := by decide +kernel
theorem dX5_prove_279 : decode cX5_prove 279 = .ok (.aload_n 0, 1) := by decide +kernel
theorem dX5_prove_280 : decode cX5_prove 280 = .ok (.iload 5, 2) := by decide +kernel
theorem dX5_prove_282 : decode cX5_prove 282 = .ok (.iload 6, 2) := by decide +kernel
theorem dX5_prove_284 : decode cX5_prove 284 = .ok (.iadd, 1) := by decide +kernel
theorem dX5_prove_285 : decode cX5_prove 285 = .ok (.ifCond .ne 12, 3) := by decide +kernel
theorem dX5_prove_288 : decode cX5_prove 288 = .ok (.aload_n 0, 1) := by decide +kernel
theorem dX5_prove_289 : decode cX5_prove 289 = .ok (.getfield 77, 3) := by decide +kernel
theorem dX5_prove_292 : decode cX5_prove 292 = .ok (.iconst 1, 1) := by decide +kernel
theorem dX5_prove_293 : decode cX5_prove 293 = .ok (.isub, 1) := by decide +kernel
theorem dX5_prove_294 : decode cX5_prove 294 = .ok (.goto 5, 3) := by decide +kernel
theorem dX5_prove_297 : decode cX5_prove 297 = .ok (.bipush (-5), 2) := by decide +kernel
theorem dX5_prove_299 : decode cX5_prove 299 = .ok (.putfield 80, 3) := by decide +kernel
theorem dX5_prove_302 : decode cX5_prove 302 = .ok (.iinc 2 1, 3) := by decide +kernel
theorem dX5_prove_305 : decode cX5_prove 305 = .ok (.goto (-193), 3) := by decide +kernel
theorem dX5_prove_308 : decode cX5_prove 308 = .ok (.iinc 1 1, 3) := by decide +kernel
theorem dX5_prove_311 : decode cX5_prove 311 = .ok (.goto (-225), 3) := by decide +kernel
theorem dX5_prove_314 : decode cX5_prove 314 = .ok (.aload_n 0, 1) := by decide +kernel
theorem dX5_prove_315 : decode cX5_prove 315 = .ok (.getfield 77, 3) := by decide +kernel
theorem dX5_prove_318 : decode cX5_prove 318 = .ok (.iconst 1, 1) := by decide +kernel
theorem dX5_prove_319 : decode cX5_prove 319 = .ok (.isub, 1) := by decide +kernel
theorem dX5_prove_320 : decode cX5_prove 320 = .ok (.istore_n 1, 1) := by decide +kernel
theorem dX5_prove_321 : decode cX5_prove 321 = .ok (.iload_n 1, 1) := by decide +kernel
theorem dX5_prove_322 : decode cX5_prove 322 = .ok (.ifCond .lt 97, 3) := by decide +kernel
theorem dX5_prove_325 : decode cX5_prove 325 = .ok (.aload_n 0, 1) := by decide +kernel
theorem dX5_prove_326 : decode cX5_prove 326 = .ok (.getfield 80, 3) := by decide +kernel
theorem dX5_prove_329 : decode cX5_prove 329 = .ok (.bipush (-5), 2) := by decide +kernel
theorem dX5_prove_331 : decode cX5_prove 331 = .ok (.if_icmp .eq 88, 3) := by decide +kernel
theorem dX5_prove_334 : decode cX5_prove 334 = .ok (.aload_n 0, 1) := by decide +kernel
theorem dX5_prove_335 : decode cX5_prove 335 = .ok (.getfield 83, 3) := by decide +kernel
theorem dX5_prove_338 : decode cX5_prove 338 = .ok (.ifCond .eq 81, 3) := by decide +kernel
theorem dX5_prove_341 : decode cX5_prove 341 = .ok (.aload_n 0, 1) := by decide +kernel
theorem dX5_prove_342 : decode cX5_prove 342 = .ok (.getfield 37, 3) := by decide +kernel
theorem dX5_prove_345 : decode cX5_prove 345 = .ok (.iload_n 1, 1) := by decide +kernel
theorem dX5_prove_346 : decode cX5_prove 346 = .ok (.aload_n 0, 1) := by decide +kernel
theorem dX5_prove_347 : decode cX5_prove 347 = .ok (.getfield 37, 3) := by decide +kernel
theorem dX5_prove_350 : decode cX5_prove 350 = .ok (.iload_n 1, 1) := by decide +kernel
theorem dX5_prove_351 : decode cX5_prove 351 = .ok (.baload, 1) := by decide +kernel
theorem dX5_prove_352 : decode cX5_prove 352 = .ok (.ifCond .ne 11, 3) := by decide +kernel
theorem dX5_prove_355 : decode cX5_prove 355 = .ok (.iload_n 1, 1) := by decide +kernel
theorem dX5_prove_356 : decode cX5_prove 356 = .ok (.aload_n 0, 1) := by decide +kernel
theorem dX5_prove_357 : decode cX5_prove 357 = .ok (.getfield 80, 3) := by decide +kernel
theorem dX5_prove_360 : decode cX5_prove 360 = .ok (.if_icmp .ne 7, 3) := by decide +kernel
theorem dX5_prove_363 : decode cX5_prove 363 = .ok (.iconst 1, 1) := by decide +kernel
theorem dX5_prove_364 : decode cX5_prove 364 = .ok (.goto 4, 3) := by decide +kernel
theorem dX5_prove_367 : decode cX5_prove 367 = .ok (.iconst 0, 1) := by decide +kernel
theorem dX5_prove_368 : decode cX5_prove 368 = .ok (.bastore, 1) := by decide +kernel
theorem dX5_prove_369 : decode cX5_prove 369 = .ok (.aload_n 0, 1) := by decide +kernel
theorem dX5_prove_370 : decode cX5_prove 370 = .ok (.getfield 37, 3) := by decide +kernel
theorem dX5_prove_373 : decode cX5_prove 373 = .ok (.iload_n 1, 1) := by decide +kernel
theorem dX5_prove_374 : decode cX5_prove 374 = .ok (.baload, 1) := by decide +kernel
theorem dX5_prove_375 : decode cX5_prove 375 = .ok (.ifCond .eq 38, 3) := by decide +kernel
theorem dX5_prove_378 : decode cX5_prove 378 = .ok (.aload_n 0, 1) := by decide +kernel
theorem dX5_prove_379 : decode cX5_prove 379 = .ok (.getfield 28, 3) := by decide +kernel
theorem dX5_prove_382 : decode cX5_prove 382 = .ok (.iload_n 1, 1) := by decide +kernel
theorem dX5_prove_383 : decode cX5_prove 383 = .ok (.iaload, 1) := by decide +kernel
theorem dX5_prove_384 : decode cX5_prove 384 = .ok (.bipush (-5), 2) := by decide +kernel
theorem dX5_prove_386 : decode cX5_prove 386 = .ok (.if_icmp .eq 27, 3) := by decide +kernel
theorem dX5_prove_389 : decode cX5_prove 389 = .ok (.aload_n 0, 1) := by decide +kernel
theorem dX5_prove_390 : decode cX5_prove 390 = .ok (.getfield 37, 3) := by decide +kernel
theorem dX5_prove_393 : decode cX5_prove 393 = .ok (.aload_n 0, 1) := by decide +kernel
theorem dX5_prove_394 : decode cX5_prove 394 = .ok (.getfield 28, 3) := by decide +kernel
theorem dX5_prove_397 : decode cX5_prove 397 = .ok (.iload_n 1, 1) := by decide +kernel
theorem dX5_prove_398 : decode cX5_prove 398 = .ok (.iaload, 1) := by decide +kernel
theorem dX5_prove_399 : decode cX5_prove 399 = .ok (.iconst 1, 1) := by decide +kernel
theorem dX5_prove_400 : decode cX5_prove 400 = .ok (.bastore, 1) := by decide +kernel
theorem dX5_prove_401 : decode cX5_prove 401 = .ok (.aload_n 0, 1) := by decide +kernel
theorem dX5_prove_402 : decode cX5_prove 402 = .ok (.getfield 37, 3) := by decide +kernel
theorem dX5_prove_405 : decode cX5_prove 405 = .ok (.aload_n 0, 1) := by decide +kernel
theorem dX5_prove_406 : decode cX5_prove 406 = .ok (.getfield 31, 3) := by decide +kernel
theorem dX5_prove_409 : decode cX5_prove 409 = .ok (.iload_n 1, 1) := by decide +kernel
theorem dX5_prove_410 : decode cX5_prove 410 = .ok (.iaload, 1) := by decide +kernel
theorem dX5_prove_411 : decode cX5_prove 411 = .ok (.iconst 1, 1) := by decide +kernel
theorem dX5_prove_412 : decode cX5_prove 412 = .ok (.bastore, 1) := by decide +kernel
theorem dX5_prove_413 : decode cX5_prove 413 = .ok (.iinc 1 (-1), 3) := by decide +kernel
theorem dX5_prove_416 : decode cX5_prove 416 = .ok (.goto (-95), 3) := by decide +kernel
theorem dX5_prove_419 : decode cX5_prove 419 = .ok (.return_, 1) := by decide +kernel
theorem dX5_isProved_0 : decode cX5_isProved 0 = .ok (.aload_n 0, 1) := by decide +kernel
theorem dX5_isProved_1 : decode cX5_isProved 1 = .ok (.getfield 83, 3) := by decide +kernel
theorem dX5_isProved_4 : decode cX5_isProved 4 = .ok (.ifCond .eq 16, 3) := by decide +kernel
theorem dX5_isProved_7 : decode cX5_isProved 7 = .ok (.aload_n 0, 1) := by decide +kernel
theorem dX5_isProved_8 : decode cX5_isProved 8 = .ok (.getfield 80, 3) := by decide +kernel
theorem dX5_isProved_11 : decode cX5_isProved 11 = .ok (.bipush (-5), 2) := by decide +kernel
theorem dX5_isProved_13 : decode cX5_isProved 13 = .ok (.if_icmp .eq 7, 3) := by decide +kernel
theorem dX5_isProved_16 : decode cX5_isProved 16 = .ok (.iconst 1, 1) := by decide +kernel
theorem dX5_isProved_17 : decode cX5_isProved 17 = .ok (.goto 4, 3) := by decide +kernel
theorem dX5_isProved_20 : decode cX5_isProved 20 = .ok (.iconst 0, 1) := by decide +kernel
theorem dX5_isProved_21 : decode cX5_isProved 21 = .ok (.ireturn, 1) := by decide +kernel
set_option maxRecDepth 20000 in
theorem ggX5_claim_X5_knownTo : GoodIn wsX5_claim wsX5_knownTo := goodIn_r _ [14, 2, 21, 22, 23, 24, 25, 26, 27, 28, 29, 30, 31, 32, 33, 34, 35, 36, 37, 38, 39, 40, 41, 42] (by decide +kernel) (by decide +kernel)
set_option maxRecDepth 20000 in
theorem gX5_claim_X5_knownTo : GoodIn wsX5_claim (wsV RX5 66 RX5 yX5_knownTo wsX5_knownTo) := goodIn_app (goodIn_of _ (by decide +kernel)) ggX5_claim_X5_knownTo
set_option maxRecDepth 20000 in
theorem ggX5_claim_X5_truths : GoodIn wsX5_claim wsX5_truths := goodIn_r _ [17] (by decide +kernel) (by decide +kernel)
set_option maxRecDepth 20000 in
theorem gX5_claim_X5_truths : GoodIn wsX5_claim (va_wsS RX5 56 yX5_truths wsX5_truths) := goodIn_app (goodIn_of _ (by decide +kernel)) ggX5_claim_X5_truths
set_option maxRecDepth 20000 in
theorem ggX5_claim_X5_worldsOf : GoodIn wsX5_claim wsX5_worldsOf := goodIn_r _ [20] (by decide +kernel) (by decide +kernel)
set_option maxRecDepth 20000 in
theorem gX5_claim_X5_worldsOf : GoodIn wsX5_claim (va_wsS RX5 94 yX5_worldsOf wsX5_worldsOf) := goodIn_app (goodIn_of _ (by decide +kernel)) ggX5_claim_X5_worldsOf
theorem dX5_claim_0 : decode cX5_claim 0 = .ok (.aload_n 0, 1) := by decide +kernel
theorem dX5_claim_1 : decode cX5_claim 1 = .ok (.iconst 0, 1) := by decide +kernel
theorem dX5_claim_2 : decode cX5_claim 2 = .ok (.invokevirtual 66, 3) := by decide +kernel
theorem dX5_claim_5 : decode cX5_claim 5 = .ok (.istore_n 2, 1) := by decide +kernel
theorem dX5_claim_6 : decode cX5_claim 6 = .ok (.aload_n 0, 1) := by decide +kernel
theorem dX5_claim_7 : decode cX5_claim 7 = .ok (.iconst 1, 1) := by decide +kernel
theorem dX5_claim_8 : decode cX5_claim 8 = .ok (.invokevirtual 66, 3) := by decide +kernel
theorem dX5_claim_11 : decode cX5_claim 11 = .ok (.istore_n 3, 1) := by decide +kernel
theorem dX5_claim_12 : decode cX5_claim 12 = .ok (.iconst 0, 1) := by decide +kernel
theorem dX5_claim_13 : decode cX5_claim 13 = .ok (.istore 4, 2) := by decide +kernel
theorem dX5_claim_15 : decode cX5_claim 15 = .ok (.iload 4, 2) := by decide +kernel
theorem dX5_claim_17 : decode cX5_claim 17 = .ok (.aload_n 0, 1) := by decide +kernel
theorem dX5_claim_18 : decode cX5_claim 18 = .ok (.getfield 77, 3) := by decide +kernel
theorem dX5_claim_21 : decode cX5_claim 21 = .ok (.if_icmp .ge 266, 3) := by decide +kernel
theorem dX5_claim_24 : decode cX5_claim 24 = .ok (.iload 4, 2) := by decide +kernel
theorem dX5_claim_26 : decode cX5_claim 26 = .ok (.aload_n 0, 1) := by decide +kernel
theorem dX5_claim_27 : decode cX5_claim 27 = .ok (.getfield 7, 3) := by decide +kernel
theorem dX5_claim_30 : decode cX5_claim 30 = .ok (.iconst 0, 1) := by decide +kernel
theorem dX5_claim_31 : decode cX5_claim 31 = .ok (.iaload, 1) := by decide +kernel
theorem dX5_claim_32 : decode cX5_claim 32 = .ok (.if_icmp .ge 60, 3) := by decide +kernel
theorem dX5_claim_35 : decode cX5_claim 35 = .ok (.aload_n 0, 1) := by decide +kernel
theorem dX5_claim_36 : decode cX5_claim 36 = .ok (.getfield 44, 3) := by decide +kernel
theorem dX5_claim_39 : decode cX5_claim 39 = .ok (.iload 4, 2) := by decide +kernel
theorem dX5_claim_41 : decode cX5_claim 41 = .ok (.aload_n 0, 1) := by decide +kernel
theorem dX5_claim_42 : decode cX5_claim 42 = .ok (.getfield 7, 3) := by decide +kernel
theorem dX5_claim_45 : decode cX5_claim 45 = .ok (.iconst 1, 1) := by decide +kernel
theorem dX5_claim_46 : decode cX5_claim 46 = .ok (.iload 4, 2) := by decide +kernel
theorem dX5_claim_48 : decode cX5_claim 48 = .ok (.iadd, 1) := by decide +kernel
theorem dX5_claim_49 : decode cX5_claim 49 = .ok (.iaload, 1) := by decide +kernel
theorem dX5_claim_50 : decode cX5_claim 50 = .ok (.iconst 1, 1) := by decide +kernel
theorem dX5_claim_51 : decode cX5_claim 51 = .ok (.if_icmp .ne 9, 3) := by decide +kernel
theorem dX5_claim_54 : decode cX5_claim 54 = .ok (.ldc2_w 60, 3) := by decide +kernel
theorem dX5_claim_57 : decode cX5_claim 57 = .ok (.goto 31, 3) := by decide +kernel
theorem dX5_claim_60 : decode cX5_claim 60 = .ok (.iload_n 1, 1) := by decide +kernel
theorem dX5_claim_61 : decode cX5_claim 61 = .ok (.ifCond .ne 7, 3) := by decide +kernel
theorem dX5_claim_64 : decode cX5_claim 64 = .ok (.lconst 0, 1) := by decide +kernel
theorem dX5_claim_65 : decode cX5_claim 65 = .ok (.goto 23, 3) := by decide +kernel
theorem dX5_claim_68 : decode cX5_claim 68 = .ok (.aload_n 0, 1) := by decide +kernel
theorem dX5_claim_69 : decode cX5_claim 69 = .ok (.getfield 22, 3) := by decide +kernel
theorem dX5_claim_72 : decode cX5_claim 72 = .ok (.iload 4, 2) := by decide +kernel
theorem dX5_claim_74 : decode cX5_claim 74 = .ok (.iaload, 1) := by decide +kernel
theorem dX5_claim_75 : decode cX5_claim 75 = .ok (.aload_n 0, 1) := by decide +kernel
theorem dX5_claim_76 : decode cX5_claim 76 = .ok (.getfield 25, 3) := by decide +kernel
theorem dX5_claim_79 : decode cX5_claim 79 = .ok (.iload 4, 2) := by decide +kernel
theorem dX5_claim_81 : decode cX5_claim 81 = .ok (.iaload, 1) := by decide +kernel
theorem dX5_claim_82 : decode cX5_claim 82 = .ok (.iload_n 2, 1) := by decide +kernel
theorem dX5_claim_83 : decode cX5_claim 83 = .ok (.iload_n 3, 1) := by decide +kernel
theorem dX5_claim_84 : decode cX5_claim 84 = .ok (.iand, 1) := by decide +kernel
theorem dX5_claim_85 : decode cX5_claim 85 = .ok (.invokestatic 56, 3) := by decide +kernel
theorem dX5_claim_88 : decode cX5_claim 88 = .ok (.lastore, 1) := by decide +kernel
theorem dX5_claim_89 : decode cX5_claim 89 = .ok (.goto 192, 3) := by decide +kernel
theorem dX5_claim_92 : decode cX5_claim 92 = .ok (.iconst 1, 1) := by decide +kernel
theorem dX5_claim_93 : decode cX5_claim 93 = .ok (.aload_n 0, 1) := by decide +kernel
theorem dX5_claim_94 : decode cX5_claim 94 = .ok (.getfield 34, 3) := by decide +kernel
theorem dX5_claim_97 : decode cX5_claim 97 = .ok (.iload 4, 2) := by decide +kernel
theorem dX5_claim_99 : decode cX5_claim 99 = .ok (.iaload, 1) := by decide +kernel
theorem dX5_claim_100 : decode cX5_claim 100 = .ok (.ishl, 1) := by decide +kernel
theorem dX5_claim_101 : decode cX5_claim 101 = .ok (.istore 5, 2) := by decide +kernel
theorem dX5_claim_103 : decode cX5_claim 103 = .ok (.aload_n 0, 1) := by decide +kernel
theorem dX5_claim_104 : decode cX5_claim 104 = .ok (.getfield 44, 3) := by decide +kernel
theorem dX5_claim_107 : decode cX5_claim 107 = .ok (.aload_n 0, 1) := by decide +kernel
theorem dX5_claim_108 : decode cX5_claim 108 = .ok (.getfield 28, 3) := by decide +kernel
theorem dX5_claim_111 : decode cX5_claim 111 = .ok (.iload 4, 2) := by decide +kernel
theorem dX5_claim_113 : decode cX5_claim 113 = .ok (.iaload, 1) := by decide +kernel
theorem dX5_claim_114 : decode cX5_claim 114 = .ok (.laload, 1) := by decide +kernel
theorem dX5_claim_115 : decode cX5_claim 115 = .ok (.lstore 6, 2) := by decide +kernel
theorem dX5_claim_117 : decode cX5_claim 117 = .ok (.aload_n 0, 1) := by decide +kernel
theorem dX5_claim_118 : decode cX5_claim 118 = .ok (.getfield 44, 3) := by decide +kernel
theorem dX5_claim_121 : decode cX5_claim 121 = .ok (.aload_n 0, 1) := by decide +kernel
theorem dX5_claim_122 : decode cX5_claim 122 = .ok (.getfield 31, 3) := by decide +kernel
theorem dX5_claim_125 : decode cX5_claim 125 = .ok (.iload 4, 2) := by decide +kernel
theorem dX5_claim_127 : decode cX5_claim 127 = .ok (.iaload, 1) := by decide +kernel
theorem dX5_claim_128 : decode cX5_claim 128 = .ok (.laload, 1) := by decide +kernel
theorem dX5_claim_129 : decode cX5_claim 129 = .ok (.lstore 8, 2) := by decide +kernel
theorem dX5_claim_131 : decode cX5_claim 131 = .ok (.aload_n 0, 1) := by decide +kernel
theorem dX5_claim_132 : decode cX5_claim 132 = .ok (.getfield 22, 3) := by decide +kernel
theorem dX5_claim_135 : decode cX5_claim 135 = .ok (.aload_n 0, 1) := by decide +kernel
theorem dX5_claim_136 : decode cX5_claim 136 = .ok (.getfield 28, 3) := by decide +kernel
theorem dX5_claim_139 : decode cX5_claim 139 = .ok (.iload 4, 2) := by decide +kernel
theorem dX5_claim_141 : decode cX5_claim 141 = .ok (.iaload, 1) := by decide +kernel
theorem dX5_claim_142 : decode cX5_claim 142 = .ok (.iaload, 1) := by decide +kernel
theorem dX5_claim_143 : decode cX5_claim 143 = .ok (.iload 5, 2) := by decide +kernel
theorem dX5_claim_145 : decode cX5_claim 145 = .ok (.iand, 1) := by decide +kernel
theorem dX5_claim_146 : decode cX5_claim 146 = .ok (.ifCond .eq 7, 3) := by decide +kernel
theorem dX5_claim_149 : decode cX5_claim 149 = .ok (.iconst 1, 1) := by decide +kernel
theorem dX5_claim_150 : decode cX5_claim 150 = .ok (.goto 4, 3) := by decide +kernel
theorem dX5_claim_153 : decode cX5_claim 153 = .ok (.iconst 0, 1) := by decide +kernel
theorem dX5_claim_154 : decode cX5_claim 154 = .ok (.istore 10, 2) := by decide +kernel
theorem dX5_claim_156 : decode cX5_claim 156 = .ok (.iload 10, 2) := by decide +kernel
theorem dX5_claim_158 : decode cX5_claim 158 = .ok (.ifCond .eq 8, 3) := by decide +kernel
theorem dX5_claim_161 : decode cX5_claim 161 = .ok (.lload 8, 2) := by decide +kernel
theorem dX5_claim_163 : decode cX5_claim 163 = .ok (.goto 5, 3) := by decide +kernel
theorem dX5_claim_166 : decode cX5_claim 166 = .ok (.lload 6, 2) := by decide +kernel
theorem dX5_claim_168 : decode cX5_claim 168 = .ok (.lstore 11, 2) := by decide +kernel
theorem dX5_claim_170 : decode cX5_claim 170 = .ok (.iload 10, 2) := by decide +kernel
theorem dX5_claim_172 : decode cX5_claim 172 = .ok (.ifCond .eq 8, 3) := by decide +kernel
theorem dX5_claim_175 : decode cX5_claim 175 = .ok (.lload 6, 2) := by decide +kernel
theorem dX5_claim_177 : decode cX5_claim 177 = .ok (.goto 5, 3) := by decide +kernel
theorem dX5_claim_180 : decode cX5_claim 180 = .ok (.lload 8, 2) := by decide +kernel
theorem dX5_claim_182 : decode cX5_claim 182 = .ok (.lstore 13, 2) := by decide +kernel
theorem dX5_claim_184 : decode cX5_claim 184 = .ok (.aload_n 0, 1) := by decide +kernel
theorem dX5_claim_185 : decode cX5_claim 185 = .ok (.getfield 34, 3) := by decide +kernel
theorem dX5_claim_188 : decode cX5_claim 188 = .ok (.iload 4, 2) := by decide +kernel
theorem dX5_claim_190 : decode cX5_claim 190 = .ok (.iaload, 1) := by decide +kernel
theorem dX5_claim_191 : decode cX5_claim 191 = .ok (.invokestatic 94, 3) := by decide +kernel
theorem dX5_claim_194 : decode cX5_claim 194 = .ok (.lstore 15, 2) := by decide +kernel
theorem dX5_claim_196 : decode cX5_claim 196 = .ok (.lload 11, 2) := by decide +kernel
theorem dX5_claim_198 : decode cX5_claim 198 = .ok (.lload 15, 2) := by decide +kernel
theorem dX5_claim_200 : decode cX5_claim 200 = .ok (.land, 1) := by decide +kernel
theorem dX5_claim_201 : decode cX5_claim 201 = .ok (.lload 13, 2) := by decide +kernel
theorem dX5_claim_203 : decode cX5_claim 203 = .ok (.lload 15, 2) := by decide +kernel
theorem dX5_claim_205 : decode cX5_claim 205 = .ok (.ldc2_w 60, 3) := by decide +kernel
theorem dX5_claim_208 : decode cX5_claim 208 = .ok (.lxor, 1) := by decide +kernel
theorem dX5_claim_209 : decode cX5_claim 209 = .ok (.land, 1) := by decide +kernel
theorem dX5_claim_210 : decode cX5_claim 210 = .ok (.lor, 1) := by decide +kernel
theorem dX5_claim_211 : decode cX5_claim 211 = .ok (.lstore 17, 2) := by decide +kernel
theorem dX5_claim_213 : decode cX5_claim 213 = .ok (.iload_n 3, 1) := by decide +kernel
theorem dX5_claim_214 : decode cX5_claim 214 = .ok (.iload 5, 2) := by decide +kernel
theorem dX5_claim_216 : decode cX5_claim 216 = .ok (.iand, 1) := by decide +kernel
theorem dX5_claim_217 : decode cX5_claim 217 = .ok (.ifCond .ne 7, 3) := by decide +kernel
theorem dX5_claim_220 : decode cX5_claim 220 = .ok (.iconst 1, 1) := by decide +kernel
theorem dX5_claim_221 : decode cX5_claim 221 = .ok (.goto 4, 3) := by decide +kernel
theorem dX5_claim_224 : decode cX5_claim 224 = .ok (.iconst 0, 1) := by decide +kernel
theorem dX5_claim_225 : decode cX5_claim 225 = .ok (.istore 19, 2) := by decide +kernel
theorem dX5_claim_227 : decode cX5_claim 227 = .ok (.iload_n 2, 1) := by decide +kernel
theorem dX5_claim_228 : decode cX5_claim 228 = .ok (.iload 5, 2) := by decide +kernel
theorem dX5_claim_230 : decode cX5_claim 230 = .ok (.iand, 1) := by decide +kernel
theorem dX5_claim_231 : decode cX5_claim 231 = .ok (.ifCond .ne 7, 3) := by decide +kernel
theorem dX5_claim_234 : decode cX5_claim 234 = .ok (.iconst 1, 1) := by decide +kernel
theorem dX5_claim_235 : decode cX5_claim 235 = .ok (.goto 4, 3) := by decide +kernel
theorem dX5_claim_238 : decode cX5_claim 238 = .ok (.iconst 0, 1) := by decide +kernel
theorem dX5_claim_239 : decode cX5_claim 239 = .ok (.istore 20, 2) := by decide +kernel
theorem dX5_claim_241 : decode cX5_claim 241 = .ok (.aload_n 0, 1) := by decide +kernel
theorem dX5_claim_242 : decode cX5_claim 242 = .ok (.getfield 44, 3) := by decide +kernel
theorem dX5_claim_245 : decode cX5_claim 245 = .ok (.iload 4, 2) := by decide +kernel
theorem dX5_claim_247 : decode cX5_claim 247 = .ok (.iload 19, 2) := by decide +kernel
theorem dX5_claim_249 : decode cX5_claim 249 = .ok (.ifCond .eq 11, 3) := by decide +kernel
theorem dX5_claim_252 : decode cX5_claim 252 = .ok (.lload 6, 2) := by decide +kernel
theorem dX5_claim_254 : decode cX5_claim 254 = .ok (.lload 8, 2) := by decide +kernel
theorem dX5_claim_256 : decode cX5_claim 256 = .ok (.lor, 1) := by decide +kernel
theorem dX5_claim_257 : decode cX5_claim 257 = .ok (.goto 23, 3) := by decide +kernel
theorem dX5_claim_260 : decode cX5_claim 260 = .ok (.iload 20, 2) := by decide +kernel
theorem dX5_claim_262 : decode cX5_claim 262 = .ok (.ifCond .ne 8, 3) := by decide +kernel
theorem dX5_claim_265 : decode cX5_claim 265 = .ok (.iload_n 1, 1) := by decide +kernel
theorem dX5_claim_266 : decode cX5_claim 266 = .ok (.iconst 1, 1) := by decide +kernel
theorem dX5_claim_267 : decode cX5_claim 267 = .ok (.if_icmp .ne 11, 3) := by decide +kernel
theorem dX5_claim_270 : decode cX5_claim 270 = .ok (.lload 6, 2) := by decide +kernel
theorem dX5_claim_272 : decode cX5_claim 272 = .ok (.lload 8, 2) := by decide +kernel
theorem dX5_claim_274 : decode cX5_claim 274 = .ok (.land, 1) := by decide +kernel
theorem dX5_claim_275 : decode cX5_claim 275 = .ok (.goto 5, 3) := by decide +kernel
theorem dX5_claim_278 : decode cX5_claim 278 = .ok (.lload 17, 2) := by decide +kernel
theorem dX5_claim_280 : decode cX5_claim 280 = .ok (.lastore, 1) := by decide +kernel
theorem dX5_claim_281 : decode cX5_claim 281 = .ok (.iinc 4 1, 3) := by decide +kernel
theorem dX5_claim_284 : decode cX5_claim 284 = .ok (.goto (-269), 3) := by decide +kernel
theorem dX5_claim_287 : decode cX5_claim 287 = .ok (.return_, 1) := by decide +kernel
set_option maxRecDepth 20000 in
theorem ggX5_middleOf_X5_claim : GoodIn wsX5_middleOf wsX5_claim := goodIn_r _ [7, 8, 9, 1, 10, 11, 12, 13, 14, 15, 16, 17, 18, 6, 19, 20, 21, 22, 23, 24, 25, 26, 27, 28, 29, 30, 31, 32, 33, 34, 35, 36, 37, 38, 39, 40, 41, 42, 43, 44, 45, 46, 47] (by decide +kernel) (by decide +kernel)
set_option maxRecDepth 20000 in
theorem gX5_middleOf_X5_claim : GoodIn wsX5_middleOf (wsV RX5 97 RX5 yX5_claim wsX5_claim) := goodIn_app (goodIn_of _ (by decide +kernel)) ggX5_middleOf_X5_claim
theorem dX5_middleOf_0 : decode cX5_middleOf 0 = .ok (.aload_n 0, 1) := by decide +kernel
theorem dX5_middleOf_1 : decode cX5_middleOf 1 = .ok (.iload_n 1, 1) := by decide +kernel
theorem dX5_middleOf_2 : decode cX5_middleOf 2 = .ok (.invokevirtual 97, 3) := by decide +kernel
theorem dX5_middleOf_5 : decode cX5_middleOf 5 = .ok (.aload_n 0, 1) := by decide +kernel
theorem dX5_middleOf_6 : decode cX5_middleOf 6 = .ok (.getfield 44, 3) := by decide +kernel
theorem dX5_middleOf_9 : decode cX5_middleOf 9 = .ok (.aload_n 0, 1) := by decide +kernel
theorem dX5_middleOf_10 : decode cX5_middleOf 10 = .ok (.getfield 80, 3) := by decide +kernel
theorem dX5_middleOf_13 : decode cX5_middleOf 13 = .ok (.laload, 1) := by decide +kernel
theorem dX5_middleOf_14 : decode cX5_middleOf 14 = .ok (.lreturn, 1) := by decide +kernel
set_option maxRecDepth 20000 in
theorem ggX5_add_X5_in : GoodIn wsX5_add wsX5_in := goodIn_r _ [5] (by decide +kernel) (by decide +kernel)
set_option maxRecDepth 20000 in
theorem gX5_add_X5_in : GoodIn wsX5_add (va_wsS RX5 48 yX5_in wsX5_in) := goodIn_app (goodIn_of _ (by decide +kernel)) ggX5_add_X5_in
set_option maxRecDepth 20000 in
theorem ggX5_add_X5_know : GoodIn wsX5_add wsX5_know := goodIn_r _ [9, 10, 11, 1, 16, 17, 18, 19, 20, 21, 22, 23, 24, 25, 26, 27, 28, 29, 30, 31, 32, 33, 34, 35, 36, 37] (by decide +kernel) (by decide +kernel)
set_option maxRecDepth 20000 in
theorem gX5_add_X5_know : GoodIn wsX5_add (wsV RX5 101 RX5 yX5_know wsX5_know) := goodIn_app (goodIn_of _ (by decide +kernel)) ggX5_add_X5_know
set_option maxRecDepth 20000 in
theorem ggX5_add_X5_put : GoodIn wsX5_add wsX5_put := goodIn_r _ [15, 1, 16, 17, 18, 19, 20, 21, 22, 23, 24, 25, 26, 27, 28, 29, 30, 31, 32, 33, 34, 35, 36, 37] (by decide +kernel) (by decide +kernel)
set_option maxRecDepth 20000 in
theorem gX5_add_X5_put : GoodIn wsX5_add (wsV RX5 104 RX5 yX5_put wsX5_put) := goodIn_app (goodIn_of _ (by decide +kernel)) ggX5_add_X5_put
theorem dX5_add_0 : decode cX5_add 0 = .ok (.iload_n 1, 1) := by decide +kernel
theorem dX5_add_1 : decode cX5_add 1 = .ok (.iconst 0, 1) := by decide +kernel
theorem dX5_add_2 : decode cX5_add 2 = .ok (.iconst 1, 1) := by decide +kernel
theorem dX5_add_3 : decode cX5_add 3 = .ok (.invokestatic 48, 3) := by decide +kernel
theorem dX5_add_6 : decode cX5_add 6 = .ok (.ifCond .ne 5, 3) := by decide +kernel
theorem dX5_add_9 : decode cX5_add 9 = .ok (.iconst (-1), 1) := by decide +kernel
theorem dX5_add_10 : decode cX5_add 10 = .ok (.ireturn, 1) := by decide +kernel
theorem dX5_add_11 : decode cX5_add 11 = .ok (.iload_n 2, 1) := by decide +kernel
theorem dX5_add_12 : decode cX5_add 12 = .ok (.iconst 0, 1) := by decide +kernel
theorem dX5_add_13 : decode cX5_add 13 = .ok (.bipush 63, 2) := by decide +kernel
theorem dX5_add_15 : decode cX5_add 15 = .ok (.invokestatic 48, 3) := by decide +kernel
theorem dX5_add_18 : decode cX5_add 18 = .ok (.ifCond .eq 25, 3) := by decide +kernel
theorem dX5_add_21 : decode cX5_add 21 = .ok (.iload_n 3, 1) := by decide +kernel
theorem dX5_add_22 : decode cX5_add 22 = .ok (.iconst 0, 1) := by decide +kernel
theorem dX5_add_23 : decode cX5_add 23 = .ok (.bipush 63, 2) := by decide +kernel
theorem dX5_add_25 : decode cX5_add 25 = .ok (.invokestatic 48, 3) := by decide +kernel
theorem dX5_add_28 : decode cX5_add 28 = .ok (.ifCond .eq 15, 3) := by decide +kernel
theorem dX5_add_31 : decode cX5_add 31 = .ok (.iload_n 2, 1) := by decide +kernel
theorem dX5_add_32 : decode cX5_add 32 = .ok (.iload_n 3, 1) := by decide +kernel
theorem dX5_add_33 : decode cX5_add 33 = .ok (.ior, 1) := by decide +kernel
theorem dX5_add_34 : decode cX5_add 34 = .ok (.ifCond .eq 9, 3) := by decide +kernel
theorem dX5_add_37 : decode cX5_add 37 = .ok (.iload_n 2, 1) := by decide +kernel
theorem dX5_add_38 : decode cX5_add 38 = .ok (.iload_n 3, 1) := by decide +kernel
theorem dX5_add_39 : decode cX5_add 39 = .ok (.iand, 1) := by decide +kernel
theorem dX5_add_40 : decode cX5_add 40 = .ok (.ifCond .eq 6, 3) := by decide +kernel
theorem dX5_add_43 : decode cX5_add 43 = .ok (.bipush (-2), 2) := by decide +kernel
theorem dX5_add_45 : decode cX5_add 45 = .ok (.ireturn, 1) := by decide +kernel
theorem dX5_add_46 : decode cX5_add 46 = .ok (.aload_n 0, 1) := by decide +kernel
theorem dX5_add_47 : decode cX5_add 47 = .ok (.getfield 7, 3) := by decide +kernel
theorem dX5_add_50 : decode cX5_add 50 = .ok (.iconst 0, 1) := by decide +kernel
theorem dX5_add_51 : decode cX5_add 51 = .ok (.iaload, 1) := by decide +kernel
theorem dX5_add_52 : decode cX5_add 52 = .ok (.bipush 24, 2) := by decide +kernel
theorem dX5_add_54 : decode cX5_add 54 = .ok (.if_icmp .ne 6, 3) := by decide +kernel
theorem dX5_add_57 : decode cX5_add 57 = .ok (.bipush (-3), 2) := by decide +kernel
theorem dX5_add_59 : decode cX5_add 59 = .ok (.ireturn, 1) := by decide +kernel
theorem dX5_add_60 : decode cX5_add 60 = .ok (.aload_n 0, 1) := by decide +kernel
theorem dX5_add_61 : decode cX5_add 61 = .ok (.invokevirtual 101, 3) := by decide +kernel
theorem dX5_add_64 : decode cX5_add 64 = .ok (.aload_n 0, 1) := by decide +kernel
theorem dX5_add_65 : decode cX5_add 65 = .ok (.iload_n 1, 1) := by decide +kernel
theorem dX5_add_66 : decode cX5_add 66 = .ok (.iload_n 2, 1) := by decide +kernel
theorem dX5_add_67 : decode cX5_add 67 = .ok (.iload_n 3, 1) := by decide +kernel
theorem dX5_add_68 : decode cX5_add 68 = .ok (.invokevirtual 104, 3) := by decide +kernel
theorem dX5_add_71 : decode cX5_add 71 = .ok (.aload_n 0, 1) := by decide +kernel
theorem dX5_add_72 : decode cX5_add 72 = .ok (.getfield 7, 3) := by decide +kernel
theorem dX5_add_75 : decode cX5_add 75 = .ok (.iconst 0, 1) := by decide +kernel
theorem dX5_add_76 : decode cX5_add 76 = .ok (.iaload, 1) := by decide +kernel
theorem dX5_add_77 : decode cX5_add 77 = .ok (.iconst 1, 1) := by decide +kernel
theorem dX5_add_78 : decode cX5_add 78 = .ok (.isub, 1) := by decide +kernel
theorem dX5_add_79 : decode cX5_add 79 = .ok (.ireturn, 1) := by decide +kernel
theorem dX5_put_0 : decode cX5_put 0 = .ok (.aload_n 0, 1) := by decide +kernel
theorem dX5_put_1 : decode cX5_put 1 = .ok (.getfield 7, 3) := by decide +kernel
theorem dX5_put_4 : decode cX5_put 4 = .ok (.iconst 1, 1) := by decide +kernel
theorem dX5_put_5 : decode cX5_put 5 = .ok (.aload_n 0, 1) := by decide +kernel
theorem dX5_put_6 : decode cX5_put 6 = .ok (.getfield 7, 3) := by decide +kernel
theorem dX5_put_9 : decode cX5_put 9 = .ok (.iconst 0, 1) := by decide +kernel
theorem dX5_put_10 : decode cX5_put 10 = .ok (.iaload, 1) := by decide +kernel
theorem dX5_put_11 : decode cX5_put 11 = .ok (.iadd, 1) := by decide +kernel
theorem dX5_put_12 : decode cX5_put 12 = .ok (.iload_n 1, 1) := by decide +kernel
theorem dX5_put_13 : decode cX5_put 13 = .ok (.iastore, 1) := by decide +kernel
theorem dX5_put_14 : decode cX5_put 14 = .ok (.aload_n 0, 1) := by decide +kernel
theorem dX5_put_15 : decode cX5_put 15 = .ok (.getfield 7, 3) := by decide +kernel
theorem dX5_put_18 : decode cX5_put 18 = .ok (.bipush 25, 2) := by decide +kernel
theorem dX5_put_20 : decode cX5_put 20 = .ok (.aload_n 0, 1) := by decide +kernel
theorem dX5_put_21 : decode cX5_put 21 = .ok (.getfield 7, 3) := by decide +kernel
theorem dX5_put_24 : decode cX5_put 24 = .ok (.iconst 0, 1) := by decide +kernel
theorem dX5_put_25 : decode cX5_put 25 = .ok (.iaload, 1) := by decide +kernel
theorem dX5_put_26 : decode cX5_put 26 = .ok (.iadd, 1) := by decide +kernel
theorem dX5_put_27 : decode cX5_put 27 = .ok (.iload_n 2, 1) := by decide +kernel
theorem dX5_put_28 : decode cX5_put 28 = .ok (.iastore, 1) := by decide +kernel
theorem dX5_put_29 : decode cX5_put 29 = .ok (.aload_n 0, 1) := by decide +kernel
theorem dX5_put_30 : decode cX5_put 30 = .ok (.getfield 7, 3) := by decide +kernel
theorem dX5_put_33 : decode cX5_put 33 = .ok (.bipush 49, 2) := by decide +kernel
theorem dX5_put_35 : decode cX5_put 35 = .ok (.aload_n 0, 1) := by decide +kernel
theorem dX5_put_36 : decode cX5_put 36 = .ok (.getfield 7, 3) := by decide +kernel
theorem dX5_put_39 : decode cX5_put 39 = .ok (.iconst 0, 1) := by decide +kernel
theorem dX5_put_40 : decode cX5_put 40 = .ok (.iaload, 1) := by decide +kernel
theorem dX5_put_41 : decode cX5_put 41 = .ok (.iadd, 1) := by decide +kernel
theorem dX5_put_42 : decode cX5_put 42 = .ok (.iload_n 3, 1) := by decide +kernel
theorem dX5_put_43 : decode cX5_put 43 = .ok (.iastore, 1) := by decide +kernel
theorem dX5_put_44 : decode cX5_put 44 = .ok (.aload_n 0, 1) := by decide +kernel
theorem dX5_put_45 : decode cX5_put 45 = .ok (.getfield 7, 3) := by decide +kernel
theorem dX5_put_48 : decode cX5_put 48 = .ok (.iconst 0, 1) := by decide +kernel
theorem dX5_put_49 : decode cX5_put 49 = .ok (.dup2, 1) := by decide +kernel
theorem dX5_put_50 : decode cX5_put 50 = .ok (.iaload, 1) := by decide +kernel
theorem dX5_put_51 : decode cX5_put 51 = .ok (.iconst 1, 1) := by decide +kernel
theorem dX5_put_52 : decode cX5_put 52 = .ok (.iadd, 1) := by decide +kernel
theorem dX5_put_53 : decode cX5_put 53 = .ok (.iastore, 1) := by decide +kernel
theorem dX5_put_54 : decode cX5_put 54 = .ok (.return_, 1) := by decide +kernel
set_option maxRecDepth 20000 in
theorem ggX5_sign_X5_in : GoodIn wsX5_sign wsX5_in := goodIn_r _ [8] (by decide +kernel) (by decide +kernel)
set_option maxRecDepth 20000 in
theorem gX5_sign_X5_in : GoodIn wsX5_sign (va_wsS RX5 48 yX5_in wsX5_in) := goodIn_app (goodIn_of _ (by decide +kernel)) ggX5_sign_X5_in
theorem dX5_sign_0 : decode cX5_sign 0 = .ok (.aload_n 0, 1) := by decide +kernel
theorem dX5_sign_1 : decode cX5_sign 1 = .ok (.getfield 108, 3) := by decide +kernel
theorem dX5_sign_4 : decode cX5_sign 4 = .ok (.aload_n 0, 1) := by decide +kernel
theorem dX5_sign_5 : decode cX5_sign 5 = .ok (.getfield 111, 3) := by decide +kernel
theorem dX5_sign_8 : decode cX5_sign 8 = .ok (.if_icmp .ge 15, 3) := by decide +kernel
theorem dX5_sign_11 : decode cX5_sign 11 = .ok (.aload_n 0, 1) := by decide +kernel
theorem dX5_sign_12 : decode cX5_sign 12 = .ok (.getfield 19, 3) := by decide +kernel
theorem dX5_sign_15 : decode cX5_sign 15 = .ok (.aload_n 0, 1) := by decide +kernel
theorem dX5_sign_16 : decode cX5_sign 16 = .ok (.getfield 108, 3) := by decide +kernel
theorem dX5_sign_19 : decode cX5_sign 19 = .ok (.iaload, 1) := by decide +kernel
theorem dX5_sign_20 : decode cX5_sign 20 = .ok (.goto 4, 3) := by decide +kernel
theorem dX5_sign_23 : decode cX5_sign 23 = .ok (.iconst 0, 1) := by decide +kernel
theorem dX5_sign_24 : decode cX5_sign 24 = .ok (.istore_n 3, 1) := by decide +kernel
theorem dX5_sign_25 : decode cX5_sign 25 = .ok (.aload_n 0, 1) := by decide +kernel
theorem dX5_sign_26 : decode cX5_sign 26 = .ok (.aload_n 0, 1) := by decide +kernel
theorem dX5_sign_27 : decode cX5_sign 27 = .ok (.getfield 114, 3) := by decide +kernel
theorem dX5_sign_30 : decode cX5_sign 30 = .ok (.ifCond .ne 12, 3) := by decide +kernel
theorem dX5_sign_33 : decode cX5_sign 33 = .ok (.iload_n 3, 1) := by decide +kernel
theorem dX5_sign_34 : decode cX5_sign 34 = .ok (.iload_n 1, 1) := by decide +kernel
theorem dX5_sign_35 : decode cX5_sign 35 = .ok (.iload_n 2, 1) := by decide +kernel
theorem dX5_sign_36 : decode cX5_sign 36 = .ok (.invokestatic 48, 3) := by decide +kernel
theorem dX5_sign_39 : decode cX5_sign 39 = .ok (.ifCond .ne 7, 3) := by decide +kernel
theorem dX5_sign_42 : decode cX5_sign 42 = .ok (.iconst 1, 1) := by decide +kernel
theorem dX5_sign_43 : decode cX5_sign 43 = .ok (.goto 4, 3) := by decide +kernel
theorem dX5_sign_46 : decode cX5_sign 46 = .ok (.iconst 0, 1) := by decide +kernel
theorem dX5_sign_47 : decode cX5_sign 47 = .ok (.putfield 114, 3) := by decide +kernel
theorem dX5_sign_50 : decode cX5_sign 50 = .ok (.aload_n 0, 1) := by decide +kernel
theorem dX5_sign_51 : decode cX5_sign 51 = .ok (.dup, 1) := by decide +kernel
theorem dX5_sign_52 : decode cX5_sign 52 = .ok (.getfield 108, 3) := by decide +kernel
theorem dX5_sign_55 : decode cX5_sign 55 = .ok (.aload_n 0, 1) := by decide +kernel
theorem dX5_sign_56 : decode cX5_sign 56 = .ok (.getfield 114, 3) := by decide +kernel
theorem dX5_sign_59 : decode cX5_sign 59 = .ok (.ifCond .eq 7, 3) := by decide +kernel
theorem dX5_sign_62 : decode cX5_sign 62 = .ok (.iconst 0, 1) := by decide +kernel
theorem dX5_sign_63 : decode cX5_sign 63 = .ok (.goto 4, 3) := by decide +kernel
theorem dX5_sign_66 : decode cX5_sign 66 = .ok (.iconst 1, 1) := by decide +kernel
theorem dX5_sign_67 : decode cX5_sign 67 = .ok (.iadd, 1) := by decide +kernel
theorem dX5_sign_68 : decode cX5_sign 68 = .ok (.putfield 108, 3) := by decide +kernel
theorem dX5_sign_71 : decode cX5_sign 71 = .ok (.iload_n 3, 1) := by decide +kernel
theorem dX5_sign_72 : decode cX5_sign 72 = .ok (.ireturn, 1) := by decide +kernel
theorem dX5_isNext_0 : decode cX5_isNext 0 = .ok (.aload_n 0, 1) := by decide +kernel
theorem dX5_isNext_1 : decode cX5_isNext 1 = .ok (.getfield 114, 3) := by decide +kernel
theorem dX5_isNext_4 : decode cX5_isNext 4 = .ok (.ifCond .ne 31, 3) := by decide +kernel
theorem dX5_isNext_7 : decode cX5_isNext 7 = .ok (.aload_n 0, 1) := by decide +kernel
theorem dX5_isNext_8 : decode cX5_isNext 8 = .ok (.getfield 108, 3) := by decide +kernel
theorem dX5_isNext_11 : decode cX5_isNext 11 = .ok (.aload_n 0, 1) := by decide +kernel
theorem dX5_isNext_12 : decode cX5_isNext 12 = .ok (.getfield 111, 3) := by decide +kernel
theorem dX5_isNext_15 : decode cX5_isNext 15 = .ok (.if_icmp .ge 20, 3) := by decide +kernel
theorem dX5_isNext_18 : decode cX5_isNext 18 = .ok (.aload_n 0, 1) := by decide +kernel
theorem dX5_isNext_19 : decode cX5_isNext 19 = .ok (.getfield 19, 3) := by decide +kernel
theorem dX5_isNext_22 : decode cX5_isNext 22 = .ok (.aload_n 0, 1) := by decide +kernel
theorem dX5_isNext_23 : decode cX5_isNext 23 = .ok (.getfield 108, 3) := by decide +kernel
theorem dX5_isNext_26 : decode cX5_isNext 26 = .ok (.iaload, 1) := by decide +kernel
theorem dX5_isNext_27 : decode cX5_isNext 27 = .ok (.iload_n 1, 1) := by decide +kernel
theorem dX5_isNext_28 : decode cX5_isNext 28 = .ok (.if_icmp .ne 7, 3) := by decide +kernel
theorem dX5_isNext_31 : decode cX5_isNext 31 = .ok (.iconst 1, 1) := by decide +kernel
theorem dX5_isNext_32 : decode cX5_isNext 32 = .ok (.goto 4, 3) := by decide +kernel
theorem dX5_isNext_35 : decode cX5_isNext 35 = .ok (.iconst 0, 1) := by decide +kernel
theorem dX5_isNext_36 : decode cX5_isNext 36 = .ok (.ireturn, 1) := by decide +kernel
set_option maxRecDepth 20000 in
theorem ggX5_isLetter_X5_in : GoodIn wsX5_isLetter wsX5_in := goodIn_r _ [8] (by decide +kernel) (by decide +kernel)
set_option maxRecDepth 20000 in
theorem gX5_isLetter_X5_in : GoodIn wsX5_isLetter (va_wsS RX5 48 yX5_in wsX5_in) := goodIn_app (goodIn_of _ (by decide +kernel)) ggX5_isLetter_X5_in
theorem dX5_isLetter_0 : decode cX5_isLetter 0 = .ok (.aload_n 0, 1) := by decide +kernel
theorem dX5_isLetter_1 : decode cX5_isLetter 1 = .ok (.getfield 114, 3) := by decide +kernel
theorem dX5_isLetter_4 : decode cX5_isLetter 4 = .ok (.ifCond .ne 36, 3) := by decide +kernel
theorem dX5_isLetter_7 : decode cX5_isLetter 7 = .ok (.aload_n 0, 1) := by decide +kernel
theorem dX5_isLetter_8 : decode cX5_isLetter 8 = .ok (.getfield 108, 3) := by decide +kernel
theorem dX5_isLetter_11 : decode cX5_isLetter 11 = .ok (.aload_n 0, 1) := by decide +kernel
theorem dX5_isLetter_12 : decode cX5_isLetter 12 = .ok (.getfield 111, 3) := by decide +kernel
theorem dX5_isLetter_15 : decode cX5_isLetter 15 = .ok (.if_icmp .ge 25, 3) := by decide +kernel
theorem dX5_isLetter_18 : decode cX5_isLetter 18 = .ok (.aload_n 0, 1) := by decide +kernel
theorem dX5_isLetter_19 : decode cX5_isLetter 19 = .ok (.getfield 19, 3) := by decide +kernel
theorem dX5_isLetter_22 : decode cX5_isLetter 22 = .ok (.aload_n 0, 1) := by decide +kernel
theorem dX5_isLetter_23 : decode cX5_isLetter 23 = .ok (.getfield 108, 3) := by decide +kernel
theorem dX5_isLetter_26 : decode cX5_isLetter 26 = .ok (.iaload, 1) := by decide +kernel
theorem dX5_isLetter_27 : decode cX5_isLetter 27 = .ok (.iload_n 1, 1) := by decide +kernel
theorem dX5_isLetter_28 : decode cX5_isLetter 28 = .ok (.bipush 102, 2) := by decide +kernel
theorem dX5_isLetter_30 : decode cX5_isLetter 30 = .ok (.invokestatic 48, 3) := by decide +kernel
theorem dX5_isLetter_33 : decode cX5_isLetter 33 = .ok (.ifCond .eq 7, 3) := by decide +kernel
theorem dX5_isLetter_36 : decode cX5_isLetter 36 = .ok (.iconst 1, 1) := by decide +kernel
theorem dX5_isLetter_37 : decode cX5_isLetter 37 = .ok (.goto 4, 3) := by decide +kernel
theorem dX5_isLetter_40 : decode cX5_isLetter 40 = .ok (.iconst 0, 1) := by decide +kernel
theorem dX5_isLetter_41 : decode cX5_isLetter 41 = .ok (.ireturn, 1) := by decide +kernel
set_option maxRecDepth 20000 in
theorem ggX5_read_X5_isNext : GoodIn wsX5_read wsX5_isNext := goodIn_r _ [8, 3, 9, 10, 11, 23, 24, 25, 26, 27, 28, 29, 30, 31, 32, 33, 34, 35, 36, 37, 38, 39, 40, 41, 42, 43, 44] (by decide +kernel) (by decide +kernel)
set_option maxRecDepth 20000 in
theorem gX5_read_X5_isNext : GoodIn wsX5_read (wsV RX5 123 RX5 yX5_isNext wsX5_isNext) := goodIn_app (goodIn_of _ (by decide +kernel)) ggX5_read_X5_isNext
set_option maxRecDepth 20000 in
theorem ggX5_read_X5_sign : GoodIn wsX5_read wsX5_sign := goodIn_r _ [15, 9, 10, 11, 3, 16, 17, 7, 18, 23, 24, 25, 26, 27, 28, 29, 30, 31, 32, 33, 34, 35, 36, 37, 38, 39, 40, 41, 42, 43, 44] (by decide +kernel) (by decide +kernel)
set_option maxRecDepth 20000 in
theorem gX5_read_X5_sign : GoodIn wsX5_read (wsV RX5 127 RX5 yX5_sign wsX5_sign) := goodIn_app (goodIn_of _ (by decide +kernel)) ggX5_read_X5_sign
set_option maxRecDepth 20000 in
theorem ggX5_read_X5_isLetter : GoodIn wsX5_read wsX5_isLetter := goodIn_r _ [22, 3, 9, 10, 11, 16, 17, 7, 18, 23, 24, 25, 26, 27, 28, 29, 30, 31, 32, 33, 34, 35, 36, 37, 38, 39, 40, 41, 42, 43, 44] (by decide +kernel) (by decide +kernel)
set_option maxRecDepth 20000 in
theorem gX5_read_X5_isLetter : GoodIn wsX5_read (wsV RX5 131 RX5 yX5_isLetter wsX5_isLetter) := goodIn_app (goodIn_of _ (by decide +kernel)) ggX5_read_X5_isLetter
theorem dX5_read_0 : decode cX5_read 0 = .ok (.aload_n 0, 1) := by decide +kernel
theorem dX5_read_1 : decode cX5_read 1 = .ok (.iconst 0, 1) := by decide +kernel
theorem dX5_read_2 : decode cX5_read 2 = .ok (.putfield 117, 3) := by decide +kernel
theorem dX5_read_5 : decode cX5_read 5 = .ok (.aload_n 0, 1) := by decide +kernel
theorem dX5_read_6 : decode cX5_read 6 = .ok (.iconst 0, 1) := by decide +kernel
theorem dX5_read_7 : decode cX5_read 7 = .ok (.putfield 120, 3) := by decide +kernel
theorem dX5_read_10 : decode cX5_read 10 = .ok (.bipush 97, 2) := by decide +kernel
theorem dX5_read_12 : decode cX5_read 12 = .ok (.istore_n 1, 1) := by decide +kernel
theorem dX5_read_13 : decode cX5_read 13 = .ok (.iconst 1, 1) := by decide +kernel
theorem dX5_read_14 : decode cX5_read 14 = .ok (.istore_n 2, 1) := by decide +kernel
theorem dX5_read_15 : decode cX5_read 15 = .ok (.iload_n 2, 1) := by decide +kernel
theorem dX5_read_16 : decode cX5_read 16 = .ok (.ifCond .eq 129, 3) := by decide +kernel
theorem dX5_read_19 : decode cX5_read 19 = .ok (.aload_n 0, 1) := by decide +kernel
theorem dX5_read_20 : decode cX5_read 20 = .ok (.bipush 45, 2) := by decide +kernel
theorem dX5_read_22 : decode cX5_read 22 = .ok (.invokevirtual 123, 3) := by decide +kernel
theorem dX5_read_25 : decode cX5_read 25 = .ok (.istore_n 3, 1) := by decide +kernel
theorem dX5_read_26 : decode cX5_read 26 = .ok (.iload_n 3, 1) := by decide +kernel
theorem dX5_read_27 : decode cX5_read 27 = .ok (.ifCond .eq 14, 3) := by decide +kernel
theorem dX5_read_30 : decode cX5_read 30 = .ok (.aload_n 0, 1) := by decide +kernel
theorem dX5_read_31 : decode cX5_read 31 = .ok (.bipush 45, 2) := by decide +kernel
theorem dX5_read_33 : decode cX5_read 33 = .ok (.bipush 45, 2) := by decide +kernel
theorem dX5_read_35 : decode cX5_read 35 = .ok (.invokevirtual 127, 3) := by decide +kernel
theorem dX5_read_38 : decode cX5_read 38 = .ok (.goto 4, 3) := by decide +kernel
theorem dX5_read_41 : decode cX5_read 41 = .ok (.iconst 0, 1) := by decide +kernel
theorem dX5_read_42 : decode cX5_read 42 = .ok (.istore 4, 2) := by decide +kernel
theorem dX5_read_44 : decode cX5_read 44 = .ok (.aload_n 0, 1) := by decide +kernel
theorem dX5_read_45 : decode cX5_read 45 = .ok (.iload_n 1, 1) := by decide +kernel
theorem dX5_read_46 : decode cX5_read 46 = .ok (.bipush 102, 2) := by decide +kernel
theorem dX5_read_48 : decode cX5_read 48 = .ok (.invokevirtual 127, 3) := by decide +kernel
theorem dX5_read_51 : decode cX5_read 51 = .ok (.istore 5, 2) := by decide +kernel
theorem dX5_read_53 : decode cX5_read 53 = .ok (.aload_n 0, 1) := by decide +kernel
theorem dX5_read_54 : decode cX5_read 54 = .ok (.getfield 114, 3) := by decide +kernel
theorem dX5_read_57 : decode cX5_read 57 = .ok (.ifCond .ne 56, 3) := by decide +kernel
theorem dX5_read_60 : decode cX5_read 60 = .ok (.aload_n 0, 1) := by decide +kernel
theorem dX5_read_61 : decode cX5_read 61 = .ok (.dup, 1) := by decide +kernel
theorem dX5_read_62 : decode cX5_read 62 = .ok (.getfield 117, 3) := by decide +kernel
theorem dX5_read_65 : decode cX5_read 65 = .ok (.iload_n 3, 1) := by decide +kernel
theorem dX5_read_66 : decode cX5_read 66 = .ok (.ifCond .eq 7, 3) := by decide +kernel
theorem dX5_read_69 : decode cX5_read 69 = .ok (.iconst 0, 1) := by decide +kernel
theorem dX5_read_70 : decode cX5_read 70 = .ok (.goto 10, 3) := by decide +kernel
theorem dX5_read_73 : decode cX5_read 73 = .ok (.iconst 1, 1) := by decide +kernel
theorem dX5_read_74 : decode cX5_read 74 = .ok (.iload 5, 2) := by decide +kernel
theorem dX5_read_76 : decode cX5_read 76 = .ok (.bipush 97, 2) := by decide +kernel
theorem dX5_read_78 : decode cX5_read 78 = .ok (.isub, 1) := by decide +kernel
theorem dX5_read_79 : decode cX5_read 79 = .ok (.ishl, 1) := by decide +kernel
theorem dX5_read_80 : decode cX5_read 80 = .ok (.ior, 1) := by decide +kernel
theorem dX5_read_81 : decode cX5_read 81 = .ok (.putfield 117, 3) := by decide +kernel
theorem dX5_read_84 : decode cX5_read 84 = .ok (.aload_n 0, 1) := by decide +kernel
theorem dX5_read_85 : decode cX5_read 85 = .ok (.dup, 1) := by decide +kernel
theorem dX5_read_86 : decode cX5_read 86 = .ok (.getfield 120, 3) := by decide +kernel
theorem dX5_read_89 : decode cX5_read 89 = .ok (.iload_n 3, 1) := by decide +kernel
theorem dX5_read_90 : decode cX5_read 90 = .ok (.ifCond .eq 13, 3) := by decide +kernel
theorem dX5_read_93 : decode cX5_read 93 = .ok (.iconst 1, 1) := by decide +kernel
theorem dX5_read_94 : decode cX5_read 94 = .ok (.iload 5, 2) := by decide +kernel
theorem dX5_read_96 : decode cX5_read 96 = .ok (.bipush 97, 2) := by decide +kernel
theorem dX5_read_98 : decode cX5_read 98 = .ok (.isub, 1) := by decide +kernel
theorem dX5_read_99 : decode cX5_read 99 = .ok (.ishl, 1) := by decide +kernel
theorem dX5_read_100 : decode cX5_read 100 = .ok (.goto 4, 3) := by decide +kernel
theorem dX5_read_103 : decode cX5_read 103 = .ok (.iconst 0, 1) := by decide +kernel
theorem dX5_read_104 : decode cX5_read 104 = .ok (.ior, 1) := by decide +kernel
theorem dX5_read_105 : decode cX5_read 105 = .ok (.putfield 120, 3) := by decide +kernel
theorem dX5_read_108 : decode cX5_read 108 = .ok (.iload 5, 2) := by decide +kernel
theorem dX5_read_110 : decode cX5_read 110 = .ok (.iconst 1, 1) := by decide +kernel
theorem dX5_read_111 : decode cX5_read 111 = .ok (.iadd, 1) := by decide +kernel
theorem dX5_read_112 : decode cX5_read 112 = .ok (.istore_n 1, 1) := by decide +kernel
theorem dX5_read_113 : decode cX5_read 113 = .ok (.aload_n 0, 1) := by decide +kernel
theorem dX5_read_114 : decode cX5_read 114 = .ok (.iload_n 1, 1) := by decide +kernel
theorem dX5_read_115 : decode cX5_read 115 = .ok (.invokevirtual 131, 3) := by decide +kernel
theorem dX5_read_118 : decode cX5_read 118 = .ok (.ifCond .ne 18, 3) := by decide +kernel
theorem dX5_read_121 : decode cX5_read 121 = .ok (.iload_n 1, 1) := by decide +kernel
theorem dX5_read_122 : decode cX5_read 122 = .ok (.bipush 102, 2) := by decide +kernel
theorem dX5_read_124 : decode cX5_read 124 = .ok (.if_icmp .gt 16, 3) := by decide +kernel
theorem dX5_read_127 : decode cX5_read 127 = .ok (.aload_n 0, 1) := by decide +kernel
theorem dX5_read_128 : decode cX5_read 128 = .ok (.bipush 45, 2) := by decide +kernel
theorem dX5_read_130 : decode cX5_read 130 = .ok (.invokevirtual 123, 3) := by decide +kernel
theorem dX5_read_133 : decode cX5_read 133 = .ok (.ifCond .eq 7, 3) := by decide +kernel
theorem dX5_read_136 : decode cX5_read 136 = .ok (.iconst 1, 1) := by decide +kernel
theorem dX5_read_137 : decode cX5_read 137 = .ok (.goto 4, 3) := by decide +kernel
theorem dX5_read_140 : decode cX5_read 140 = .ok (.iconst 0, 1) := by decide +kernel
theorem dX5_read_141 : decode cX5_read 141 = .ok (.istore_n 2, 1) := by decide +kernel
theorem dX5_read_142 : decode cX5_read 142 = .ok (.goto (-127), 3) := by decide +kernel
theorem dX5_read_145 : decode cX5_read 145 = .ok (.return_, 1) := by decide +kernel
set_option maxRecDepth 20000 in
theorem ggX5_go_X5_read : GoodIn wsX5_go wsX5_read := goodIn_r _ [10, 3, 4, 2, 11, 12, 13, 9, 14, 1, 5, 15, 16, 17, 18, 19, 20, 21, 22, 23, 24, 25, 26, 32, 33, 34, 35, 36, 37, 38, 39, 40, 41, 42, 43, 44, 45, 46, 47, 48, 49, 50, 51, 52, 53] (by decide +kernel) (by decide +kernel)
set_option maxRecDepth 20000 in
theorem gX5_go_X5_read : GoodIn wsX5_go (wsV RX5 134 RX5 yX5_read wsX5_read) := goodIn_app (goodIn_of _ (by decide +kernel)) ggX5_go_X5_read
set_option maxRecDepth 20000 in
theorem ggX5_go_X5_put : GoodIn wsX5_go wsX5_put := goodIn_r _ [30, 31, 32, 33, 34, 35, 36, 37, 38, 39, 40, 41, 42, 43, 44, 45, 46, 47, 48, 49, 50, 51, 52, 53] (by decide +kernel) (by decide +kernel)
set_option maxRecDepth 20000 in
theorem gX5_go_X5_put : GoodIn wsX5_go (wsV RX5 104 RX5 yX5_put wsX5_put) := goodIn_app (goodIn_of _ (by decide +kernel)) ggX5_go_X5_put
set_option maxRecDepth 20000 in
theorem ggX5_go_X5_isNext : GoodIn wsX5_go wsX5_isNext := goodIn_r _ [14, 2, 1, 5, 15, 32, 33, 34, 35, 36, 37, 38, 39, 40, 41, 42, 43, 44, 45, 46, 47, 48, 49, 50, 51, 52, 53] (by decide +kernel) (by decide +kernel)
set_option maxRecDepth 20000 in
theorem gX5_go_X5_isNext : GoodIn wsX5_go (wsV RX5 123 RX5 yX5_isNext wsX5_isNext) := goodIn_app (goodIn_of _ (by decide +kernel)) ggX5_go_X5_isNext
set_option maxRecDepth 20000 in
theorem ggX5_go_X5_sign : GoodIn wsX5_go wsX5_sign := goodIn_r _ [19, 1, 5, 15, 2, 20, 21, 9, 22, 32, 33, 34, 35, 36, 37, 38, 39, 40, 41, 42, 43, 44, 45, 46, 47, 48, 49, 50, 51, 52, 53] (by decide +kernel) (by decide +kernel)
set_option maxRecDepth 20000 in
theorem gX5_go_X5_sign : GoodIn wsX5_go (wsV RX5 127 RX5 yX5_sign wsX5_sign) := goodIn_app (goodIn_of _ (by decide +kernel)) ggX5_go_X5_sign
theorem dX5_go_0 : decode cX5_go 0 = .ok (.aload_n 0, 1) := by decide +kernel
theorem dX5_go_1 : decode cX5_go 1 = .ok (.iconst 0, 1) := by decide +kernel
theorem dX5_go_2 : decode cX5_go 2 = .ok (.putfield 108, 3) := by decide +kernel
theorem dX5_go_5 : decode cX5_go 5 = .ok (.aload_n 0, 1) := by decide +kernel
theorem dX5_go_6 : decode cX5_go 6 = .ok (.iconst 0, 1) := by decide +kernel
theorem dX5_go_7 : decode cX5_go 7 = .ok (.putfield 114, 3) := by decide +kernel
theorem dX5_go_10 : decode cX5_go 10 = .ok (.iconst 0, 1) := by decide +kernel
theorem dX5_go_11 : decode cX5_go 11 = .ok (.istore_n 2, 1) := by decide +kernel
theorem dX5_go_12 : decode cX5_go 12 = .ok (.iconst 0, 1) := by decide +kernel
theorem dX5_go_13 : decode cX5_go 13 = .ok (.istore_n 3, 1) := by decide +kernel
theorem dX5_go_14 : decode cX5_go 14 = .ok (.iconst 1, 1) := by decide +kernel
theorem dX5_go_15 : decode cX5_go 15 = .ok (.istore 4, 2) := by decide +kernel
theorem dX5_go_17 : decode cX5_go 17 = .ok (.iload 4, 2) := by decide +kernel
theorem dX5_go_19 : decode cX5_go 19 = .ok (.ifCond .eq 131, 3) := by decide +kernel
theorem dX5_go_22 : decode cX5_go 22 = .ok (.aload_n 0, 1) := by decide +kernel
theorem dX5_go_23 : decode cX5_go 23 = .ok (.invokevirtual 134, 3) := by decide +kernel
theorem dX5_go_26 : decode cX5_go 26 = .ok (.iload_n 1, 1) := by decide +kernel
theorem dX5_go_27 : decode cX5_go 27 = .ok (.ifCond .eq 16, 3) := by decide +kernel
theorem dX5_go_30 : decode cX5_go 30 = .ok (.aload_n 0, 1) := by decide +kernel
theorem dX5_go_31 : decode cX5_go 31 = .ok (.iload_n 3, 1) := by decide +kernel
theorem dX5_go_32 : decode cX5_go 32 = .ok (.aload_n 0, 1) := by decide +kernel
theorem dX5_go_33 : decode cX5_go 33 = .ok (.getfield 117, 3) := by decide +kernel
theorem dX5_go_36 : decode cX5_go 36 = .ok (.aload_n 0, 1) := by decide +kernel
theorem dX5_go_37 : decode cX5_go 37 = .ok (.getfield 120, 3) := by decide +kernel
theorem dX5_go_40 : decode cX5_go 40 = .ok (.invokevirtual 104, 3) := by decide +kernel
theorem dX5_go_43 : decode cX5_go 43 = .ok (.iinc 2 1, 3) := by decide +kernel
theorem dX5_go_46 : decode cX5_go 46 = .ok (.aload_n 0, 1) := by decide +kernel
theorem dX5_go_47 : decode cX5_go 47 = .ok (.getfield 114, 3) := by decide +kernel
theorem dX5_go_50 : decode cX5_go 50 = .ok (.ifCond .ne 18, 3) := by decide +kernel
theorem dX5_go_53 : decode cX5_go 53 = .ok (.aload_n 0, 1) := by decide +kernel
theorem dX5_go_54 : decode cX5_go 54 = .ok (.getfield 108, 3) := by decide +kernel
theorem dX5_go_57 : decode cX5_go 57 = .ok (.aload_n 0, 1) := by decide +kernel
theorem dX5_go_58 : decode cX5_go 58 = .ok (.getfield 111, 3) := by decide +kernel
theorem dX5_go_61 : decode cX5_go 61 = .ok (.if_icmp .ge 7, 3) := by decide +kernel
theorem dX5_go_64 : decode cX5_go 64 = .ok (.iconst 1, 1) := by decide +kernel
theorem dX5_go_65 : decode cX5_go 65 = .ok (.goto 4, 3) := by decide +kernel
theorem dX5_go_68 : decode cX5_go 68 = .ok (.iconst 0, 1) := by decide +kernel
theorem dX5_go_69 : decode cX5_go 69 = .ok (.istore 4, 2) := by decide +kernel
theorem dX5_go_71 : decode cX5_go 71 = .ok (.iload 4, 2) := by decide +kernel
theorem dX5_go_73 : decode cX5_go 73 = .ok (.ifCond .eq (-56), 3) := by decide +kernel
theorem dX5_go_76 : decode cX5_go 76 = .ok (.iload_n 3, 1) := by decide +kernel
theorem dX5_go_77 : decode cX5_go 77 = .ok (.ifCond .ne 16, 3) := by decide +kernel
theorem dX5_go_80 : decode cX5_go 80 = .ok (.aload_n 0, 1) := by decide +kernel
theorem dX5_go_81 : decode cX5_go 81 = .ok (.bipush 47, 2) := by decide +kernel
theorem dX5_go_83 : decode cX5_go 83 = .ok (.invokevirtual 123, 3) := by decide +kernel
theorem dX5_go_86 : decode cX5_go 86 = .ok (.ifCond .eq 7, 3) := by decide +kernel
theorem dX5_go_89 : decode cX5_go 89 = .ok (.iconst 1, 1) := by decide +kernel
theorem dX5_go_90 : decode cX5_go 90 = .ok (.goto 4, 3) := by decide +kernel
theorem dX5_go_93 : decode cX5_go 93 = .ok (.iconst 0, 1) := by decide +kernel
theorem dX5_go_94 : decode cX5_go 94 = .ok (.istore 5, 2) := by decide +kernel
theorem dX5_go_96 : decode cX5_go 96 = .ok (.iload 5, 2) := by decide +kernel
theorem dX5_go_98 : decode cX5_go 98 = .ok (.ifCond .eq 14, 3) := by decide +kernel
theorem dX5_go_101 : decode cX5_go 101 = .ok (.aload_n 0, 1) := by decide +kernel
theorem dX5_go_102 : decode cX5_go 102 = .ok (.bipush 47, 2) := by decide +kernel
theorem dX5_go_104 : decode cX5_go 104 = .ok (.bipush 47, 2) := by decide +kernel
theorem dX5_go_106 : decode cX5_go 106 = .ok (.invokevirtual 127, 3) := by decide +kernel
theorem dX5_go_109 : decode cX5_go 109 = .ok (.goto 11, 3) := by decide +kernel
theorem dX5_go_112 : decode cX5_go 112 = .ok (.aload_n 0, 1) := by decide +kernel
theorem dX5_go_113 : decode cX5_go 113 = .ok (.bipush 44, 2) := by decide +kernel
theorem dX5_go_115 : decode cX5_go 115 = .ok (.bipush 44, 2) := by decide +kernel
theorem dX5_go_117 : decode cX5_go 117 = .ok (.invokevirtual 127, 3) := by decide +kernel
theorem dX5_go_120 : decode cX5_go 120 = .ok (.istore 6, 2) := by decide +kernel
theorem dX5_go_122 : decode cX5_go 122 = .ok (.iload 5, 2) := by decide +kernel
theorem dX5_go_124 : decode cX5_go 124 = .ok (.ifCond .eq 7, 3) := by decide +kernel
theorem dX5_go_127 : decode cX5_go 127 = .ok (.iconst 1, 1) := by decide +kernel
theorem dX5_go_128 : decode cX5_go 128 = .ok (.goto 4, 3) := by decide +kernel
theorem dX5_go_131 : decode cX5_go 131 = .ok (.iload_n 3, 1) := by decide +kernel
theorem dX5_go_132 : decode cX5_go 132 = .ok (.istore_n 3, 1) := by decide +kernel
theorem dX5_go_133 : decode cX5_go 133 = .ok (.aload_n 0, 1) := by decide +kernel
theorem dX5_go_134 : decode cX5_go 134 = .ok (.getfield 114, 3) := by decide +kernel
theorem dX5_go_137 : decode cX5_go 137 = .ok (.ifCond .ne 7, 3) := by decide +kernel
theorem dX5_go_140 : decode cX5_go 140 = .ok (.iconst 1, 1) := by decide +kernel
theorem dX5_go_141 : decode cX5_go 141 = .ok (.goto 4, 3) := by decide +kernel
theorem dX5_go_144 : decode cX5_go 144 = .ok (.iconst 0, 1) := by decide +kernel
theorem dX5_go_145 : decode cX5_go 145 = .ok (.istore 4, 2) := by decide +kernel
theorem dX5_go_147 : decode cX5_go 147 = .ok (.goto (-130), 3) := by decide +kernel
theorem dX5_go_150 : decode cX5_go 150 = .ok (.iload_n 2, 1) := by decide +kernel
theorem dX5_go_151 : decode cX5_go 151 = .ok (.ireturn, 1) := by decide +kernel
set_option maxRecDepth 20000 in
theorem ggX5_addAll_X5_go : GoodIn wsX5_addAll wsX5_go := goodIn_r _ [8, 2, 1, 9, 10, 11, 12, 13, 14, 7, 15, 16, 17, 18, 19, 20, 21, 22, 23, 24, 25, 26, 27, 28, 29, 30, 31, 32, 33, 34, 35, 3, 42, 43, 44, 45, 46, 47, 48, 49, 50, 51, 52, 53, 54, 55, 56, 57, 58, 59, 60, 61, 62, 63] (by decide +kernel) (by decide +kernel)
set_option maxRecDepth 20000 in
theorem gX5_addAll_X5_go : GoodIn wsX5_addAll (wsV RX5 137 RX5 yX5_go wsX5_go) := goodIn_app (goodIn_of _ (by decide +kernel)) ggX5_addAll_X5_go
set_option maxRecDepth 20000 in
theorem ggX5_addAll_X5_know : GoodIn wsX5_addAll wsX5_know := goodIn_r _ [39, 40, 41, 3, 42, 43, 44, 45, 46, 47, 48, 49, 50, 51, 52, 53, 54, 55, 56, 57, 58, 59, 60, 61, 62, 63] (by decide +kernel) (by decide +kernel)
set_option maxRecDepth 20000 in
theorem gX5_addAll_X5_know : GoodIn wsX5_addAll (wsV RX5 101 RX5 yX5_know wsX5_know) := goodIn_app (goodIn_of _ (by decide +kernel)) ggX5_addAll_X5_know
theorem dX5_addAll_0 : decode cX5_addAll 0 = .ok (.aload_n 0, 1) := by decide +kernel
theorem dX5_addAll_1 : decode cX5_addAll 1 = .ok (.iconst 0, 1) := by decide +kernel
theorem dX5_addAll_2 : decode cX5_addAll 2 = .ok (.invokevirtual 137, 3) := by decide +kernel
theorem dX5_addAll_5 : decode cX5_addAll 5 = .ok (.istore_n 1, 1) := by decide +kernel
theorem dX5_addAll_6 : decode cX5_addAll 6 = .ok (.aload_n 0, 1) := by decide +kernel
theorem dX5_addAll_7 : decode cX5_addAll 7 = .ok (.getfield 114, 3) := by decide +kernel
theorem dX5_addAll_10 : decode cX5_addAll 10 = .ok (.ifCond .eq 11, 3) := by decide +kernel
theorem dX5_addAll_13 : decode cX5_addAll 13 = .ok (.bipush (-100), 2) := by decide +kernel
theorem dX5_addAll_15 : decode cX5_addAll 15 = .ok (.aload_n 0, 1) := by decide +kernel
theorem dX5_addAll_16 : decode cX5_addAll 16 = .ok (.getfield 108, 3) := by decide +kernel
theorem dX5_addAll_19 : decode cX5_addAll 19 = .ok (.isub, 1) := by decide +kernel
theorem dX5_addAll_20 : decode cX5_addAll 20 = .ok (.ireturn, 1) := by decide +kernel
theorem dX5_addAll_21 : decode cX5_addAll 21 = .ok (.aload_n 0, 1) := by decide +kernel
theorem dX5_addAll_22 : decode cX5_addAll 22 = .ok (.getfield 7, 3) := by decide +kernel
theorem dX5_addAll_25 : decode cX5_addAll 25 = .ok (.iconst 0, 1) := by decide +kernel
theorem dX5_addAll_26 : decode cX5_addAll 26 = .ok (.iaload, 1) := by decide +kernel
theorem dX5_addAll_27 : decode cX5_addAll 27 = .ok (.iload_n 1, 1) := by decide +kernel
theorem dX5_addAll_28 : decode cX5_addAll 28 = .ok (.iadd, 1) := by decide +kernel
theorem dX5_addAll_29 : decode cX5_addAll 29 = .ok (.bipush 24, 2) := by decide +kernel
theorem dX5_addAll_31 : decode cX5_addAll 31 = .ok (.if_icmp .le 6, 3) := by decide +kernel
theorem dX5_addAll_34 : decode cX5_addAll 34 = .ok (.bipush (-3), 2) := by decide +kernel
theorem dX5_addAll_36 : decode cX5_addAll 36 = .ok (.ireturn, 1) := by decide +kernel
theorem dX5_addAll_37 : decode cX5_addAll 37 = .ok (.aload_n 0, 1) := by decide +kernel
theorem dX5_addAll_38 : decode cX5_addAll 38 = .ok (.invokevirtual 101, 3) := by decide +kernel
theorem dX5_addAll_41 : decode cX5_addAll 41 = .ok (.aload_n 0, 1) := by decide +kernel
theorem dX5_addAll_42 : decode cX5_addAll 42 = .ok (.iconst 1, 1) := by decide +kernel
theorem dX5_addAll_43 : decode cX5_addAll 43 = .ok (.invokevirtual 137, 3) := by decide +kernel
theorem dX5_addAll_46 : decode cX5_addAll 46 = .ok (.ireturn, 1) := by decide +kernel
theorem dX5_drop_0 : decode cX5_drop 0 = .ok (.aload_n 0, 1) := by decide +kernel
theorem dX5_drop_1 : decode cX5_drop 1 = .ok (.getfield 7, 3) := by decide +kernel
theorem dX5_drop_4 : decode cX5_drop 4 = .ok (.iconst 0, 1) := by decide +kernel
theorem dX5_drop_5 : decode cX5_drop 5 = .ok (.dup2, 1) := by decide +kernel
theorem dX5_drop_6 : decode cX5_drop 6 = .ok (.iaload, 1) := by decide +kernel
theorem dX5_drop_7 : decode cX5_drop 7 = .ok (.iconst 1, 1) := by decide +kernel
theorem dX5_drop_8 : decode cX5_drop 8 = .ok (.isub, 1) := by decide +kernel
theorem dX5_drop_9 : decode cX5_drop 9 = .ok (.iastore, 1) := by decide +kernel
theorem dX5_drop_10 : decode cX5_drop 10 = .ok (.iload_n 1, 1) := by decide +kernel
theorem dX5_drop_11 : decode cX5_drop 11 = .ok (.istore_n 2, 1) := by decide +kernel
theorem dX5_drop_12 : decode cX5_drop 12 = .ok (.iload_n 2, 1) := by decide +kernel
theorem dX5_drop_13 : decode cX5_drop 13 = .ok (.aload_n 0, 1) := by decide +kernel
theorem dX5_drop_14 : decode cX5_drop 14 = .ok (.getfield 7, 3) := by decide +kernel
theorem dX5_drop_17 : decode cX5_drop 17 = .ok (.iconst 0, 1) := by decide +kernel
theorem dX5_drop_18 : decode cX5_drop 18 = .ok (.iaload, 1) := by decide +kernel
theorem dX5_drop_19 : decode cX5_drop 19 = .ok (.if_icmp .ge 67, 3) := by decide +kernel
theorem dX5_drop_22 : decode cX5_drop 22 = .ok (.aload_n 0, 1) := by decide +kernel
theorem dX5_drop_23 : decode cX5_drop 23 = .ok (.getfield 7, 3) := by decide +kernel
theorem dX5_drop_26 : decode cX5_drop 26 = .ok (.iconst 1, 1) := by decide +kernel
theorem dX5_drop_27 : decode cX5_drop 27 = .ok (.iload_n 2, 1) := by decide +kernel
theorem dX5_drop_28 : decode cX5_drop 28 = .ok (.iadd, 1) := by decide +kernel
theorem dX5_drop_29 : decode cX5_drop 29 = .ok (.aload_n 0, 1) := by decide +kernel
theorem dX5_drop_30 : decode cX5_drop 30 = .ok (.getfield 7, 3) := by decide +kernel
theorem dX5_drop_33 : decode cX5_drop 33 = .ok (.iconst 1, 1) := by decide +kernel
theorem dX5_drop_34 : decode cX5_drop 34 = .ok (.iload_n 2, 1) := by decide +kernel
theorem dX5_drop_35 : decode cX5_drop 35 = .ok (.iadd, 1) := by decide +kernel
theorem dX5_drop_36 : decode cX5_drop 36 = .ok (.iconst 1, 1) := by decide +kernel
theorem dX5_drop_37 : decode cX5_drop 37 = .ok (.iadd, 1) := by decide +kernel
theorem dX5_drop_38 : decode cX5_drop 38 = .ok (.iaload, 1) := by decide +kernel
theorem dX5_drop_39 : decode cX5_drop 39 = .ok (.iastore, 1) := by decide +kernel
theorem dX5_drop_40 : decode cX5_drop 40 = .ok (.aload_n 0, 1) := by decide +kernel
theorem dX5_drop_41 : decode cX5_drop 41 = .ok (.getfield 7, 3) := by decide +kernel
theorem dX5_drop_44 : decode cX5_drop 44 = .ok (.bipush 25, 2) := by decide +kernel
theorem dX5_drop_46 : decode cX5_drop 46 = .ok (.iload_n 2, 1) := by decide +kernel
theorem dX5_drop_47 : decode cX5_drop 47 = .ok (.iadd, 1) := by decide +kernel
theorem dX5_drop_48 : decode cX5_drop 48 = .ok (.aload_n 0, 1) := by decide +kernel
theorem dX5_drop_49 : decode cX5_drop 49 = .ok (.getfield 7, 3) := by decide +kernel
theorem dX5_drop_52 : decode cX5_drop 52 = .ok (.bipush 25, 2) := by decide +kernel
theorem dX5_drop_54 : decode cX5_drop 54 = .ok (.iload_n 2, 1) := by decide +kernel
theorem dX5_drop_55 : decode cX5_drop 55 = .ok (.iadd, 1) := by decide +kernel
theorem dX5_drop_56 : decode cX5_drop 56 = .ok (.iconst 1, 1) := by decide +kernel
theorem dX5_drop_57 : decode cX5_drop 57 = .ok (.iadd, 1) := by decide +kernel
theorem dX5_drop_58 : decode cX5_drop 58 = .ok (.iaload, 1) := by decide +kernel
theorem dX5_drop_59 : decode cX5_drop 59 = .ok (.iastore, 1) := by decide +kernel
theorem dX5_drop_60 : decode cX5_drop 60 = .ok (.aload_n 0, 1) := by decide +kernel
theorem dX5_drop_61 : decode cX5_drop 61 = .ok (.getfield 7, 3) := by decide +kernel
theorem dX5_drop_64 : decode cX5_drop 64 = .ok (.bipush 49, 2) := by decide +kernel
theorem dX5_drop_66 : decode cX5_drop 66 = .ok (.iload_n 2, 1) := by decide +kernel
theorem dX5_drop_67 : decode cX5_drop 67 = .ok (.iadd, 1) := by decide +kernel
theorem dX5_drop_68 : decode cX5_drop 68 = .ok (.aload_n 0, 1) := by decide +kernel
theorem dX5_drop_69 : decode cX5_drop 69 = .ok (.getfield 7, 3) := by decide +kernel
theorem dX5_drop_72 : decode cX5_drop 72 = .ok (.bipush 49, 2) := by decide +kernel
theorem dX5_drop_74 : decode cX5_drop 74 = .ok (.iload_n 2, 1) := by decide +kernel
theorem dX5_drop_75 : decode cX5_drop 75 = .ok (.iadd, 1) := by decide +kernel
theorem dX5_drop_76 : decode cX5_drop 76 = .ok (.iconst 1, 1) := by decide +kernel
theorem dX5_drop_77 : decode cX5_drop 77 = .ok (.iadd, 1) := by decide +kernel
theorem dX5_drop_78 : decode cX5_drop 78 = .ok (.iaload, 1) := by decide +kernel
theorem dX5_drop_79 : decode cX5_drop 79 = .ok (.iastore, 1) := by decide +kernel
theorem dX5_drop_80 : decode cX5_drop 80 = .ok (.iinc 2 1, 3) := by decide +kernel
theorem dX5_drop_83 : decode cX5_drop 83 = .ok (.goto (-71), 3) := by decide +kernel
theorem dX5_drop_86 : decode cX5_drop 86 = .ok (.return_, 1) := by decide +kernel
set_option maxRecDepth 20000 in
theorem ggX5_remove_X5_isClause : GoodIn wsX5_remove wsX5_isClause := goodIn_r _ [6, 1, 7, 8, 5, 9, 20, 21, 22, 23, 24, 25, 26, 27, 28, 29, 30, 31, 32, 33, 34, 35, 36, 37, 38, 39, 40, 41] (by decide +kernel) (by decide +kernel)
set_option maxRecDepth 20000 in
theorem gX5_remove_X5_isClause : GoodIn wsX5_remove (wsV RX5 141 RX5 yX5_isClause wsX5_isClause) := goodIn_app (goodIn_of _ (by decide +kernel)) ggX5_remove_X5_isClause
set_option maxRecDepth 20000 in
theorem ggX5_remove_X5_know : GoodIn wsX5_remove wsX5_know := goodIn_r _ [13, 14, 15, 1, 20, 21, 22, 23, 24, 25, 26, 27, 28, 29, 30, 31, 32, 33, 34, 35, 36, 37, 38, 39, 40, 41] (by decide +kernel) (by decide +kernel)
set_option maxRecDepth 20000 in
theorem gX5_remove_X5_know : GoodIn wsX5_remove (wsV RX5 101 RX5 yX5_know wsX5_know) := goodIn_app (goodIn_of _ (by decide +kernel)) ggX5_remove_X5_know
set_option maxRecDepth 20000 in
theorem ggX5_remove_X5_drop : GoodIn wsX5_remove wsX5_drop := goodIn_r _ [19, 1, 20, 21, 22, 23, 24, 25, 26, 27, 28, 29, 30, 31, 32, 33, 34, 35, 36, 37, 38, 39, 40, 41] (by decide +kernel) (by decide +kernel)
set_option maxRecDepth 20000 in
theorem gX5_remove_X5_drop : GoodIn wsX5_remove (wsV RX5 144 RX5 yX5_drop wsX5_drop) := goodIn_app (goodIn_of _ (by decide +kernel)) ggX5_remove_X5_drop
theorem dX5_remove_0 : decode cX5_remove 0 = .ok (.aload_n 0, 1) := by decide +kernel
theorem dX5_remove_1 : decode cX5_remove 1 = .ok (.iload_n 1, 1) := by decide +kernel
theorem dX5_remove_2 : decode cX5_remove 2 = .ok (.invokevirtual 141, 3) := by decide +kernel
theorem dX5_remove_5 : decode cX5_remove 5 = .ok (.ifCond .ne 5, 3) := by decide +kernel
theorem dX5_remove_8 : decode cX5_remove 8 = .ok (.iconst (-1), 1) := by decide +kernel
theorem dX5_remove_9 : decode cX5_remove 9 = .ok (.ireturn, 1) := by decide +kernel
theorem dX5_remove_10 : decode cX5_remove 10 = .ok (.aload_n 0, 1) := by decide +kernel
theorem dX5_remove_11 : decode cX5_remove 11 = .ok (.invokevirtual 101, 3) := by decide +kernel
theorem dX5_remove_14 : decode cX5_remove 14 = .ok (.aload_n 0, 1) := by decide +kernel
theorem dX5_remove_15 : decode cX5_remove 15 = .ok (.iload_n 1, 1) := by decide +kernel
theorem dX5_remove_16 : decode cX5_remove 16 = .ok (.invokevirtual 144, 3) := by decide +kernel
theorem dX5_remove_19 : decode cX5_remove 19 = .ok (.aload_n 0, 1) := by decide +kernel
theorem dX5_remove_20 : decode cX5_remove 20 = .ok (.getfield 7, 3) := by decide +kernel
theorem dX5_remove_23 : decode cX5_remove 23 = .ok (.iconst 0, 1) := by decide +kernel
theorem dX5_remove_24 : decode cX5_remove 24 = .ok (.iaload, 1) := by decide +kernel
theorem dX5_remove_25 : decode cX5_remove 25 = .ok (.ireturn, 1) := by decide +kernel
set_option maxRecDepth 20000 in
theorem ggX5_move_X5_isClause : GoodIn wsX5_move wsX5_isClause := goodIn_r _ [6, 1, 7, 8, 5, 9, 16, 17, 18, 19, 20, 21, 22, 23, 24, 25, 26, 27, 28, 29, 30, 31, 32, 33, 34, 35, 36, 37] (by decide +kernel) (by decide +kernel)
set_option maxRecDepth 20000 in
theorem gX5_move_X5_isClause : GoodIn wsX5_move (wsV RX5 141 RX5 yX5_isClause wsX5_isClause) := goodIn_app (goodIn_of _ (by decide +kernel)) ggX5_move_X5_isClause
set_option maxRecDepth 20000 in
theorem ggX5_move_X5_know : GoodIn wsX5_move wsX5_know := goodIn_r _ [13, 14, 15, 1, 16, 17, 18, 19, 20, 21, 22, 23, 24, 25, 26, 27, 28, 29, 30, 31, 32, 33, 34, 35, 36, 37] (by decide +kernel) (by decide +kernel)
set_option maxRecDepth 20000 in
theorem gX5_move_X5_know : GoodIn wsX5_move (wsV RX5 101 RX5 yX5_know wsX5_know) := goodIn_app (goodIn_of _ (by decide +kernel)) ggX5_move_X5_know
theorem dX5_move_0 : decode cX5_move 0 = .ok (.aload_n 0, 1) := by decide +kernel
theorem dX5_move_1 : decode cX5_move 1 = .ok (.iload_n 1, 1) := by decide +kernel
theorem dX5_move_2 : decode cX5_move 2 = .ok (.invokevirtual 141, 3) := by decide +kernel
theorem dX5_move_5 : decode cX5_move 5 = .ok (.ifCond .ne 5, 3) := by decide +kernel
theorem dX5_move_8 : decode cX5_move 8 = .ok (.iconst (-1), 1) := by decide +kernel
theorem dX5_move_9 : decode cX5_move 9 = .ok (.ireturn, 1) := by decide +kernel
theorem dX5_move_10 : decode cX5_move 10 = .ok (.aload_n 0, 1) := by decide +kernel
theorem dX5_move_11 : decode cX5_move 11 = .ok (.invokevirtual 101, 3) := by decide +kernel
theorem dX5_move_14 : decode cX5_move 14 = .ok (.aload_n 0, 1) := by decide +kernel
theorem dX5_move_15 : decode cX5_move 15 = .ok (.getfield 7, 3) := by decide +kernel
theorem dX5_move_18 : decode cX5_move 18 = .ok (.iconst 1, 1) := by decide +kernel
theorem dX5_move_19 : decode cX5_move 19 = .ok (.iload_n 1, 1) := by decide +kernel
theorem dX5_move_20 : decode cX5_move 20 = .ok (.iadd, 1) := by decide +kernel
theorem dX5_move_21 : decode cX5_move 21 = .ok (.iconst 1, 1) := by decide +kernel
theorem dX5_move_22 : decode cX5_move 22 = .ok (.aload_n 0, 1) := by decide +kernel
theorem dX5_move_23 : decode cX5_move 23 = .ok (.getfield 7, 3) := by decide +kernel
theorem dX5_move_26 : decode cX5_move 26 = .ok (.iconst 1, 1) := by decide +kernel
theorem dX5_move_27 : decode cX5_move 27 = .ok (.iload_n 1, 1) := by decide +kernel
theorem dX5_move_28 : decode cX5_move 28 = .ok (.iadd, 1) := by decide +kernel
theorem dX5_move_29 : decode cX5_move 29 = .ok (.iaload, 1) := by decide +kernel
theorem dX5_move_30 : decode cX5_move 30 = .ok (.isub, 1) := by decide +kernel
theorem dX5_move_31 : decode cX5_move 31 = .ok (.iastore, 1) := by decide +kernel
theorem dX5_move_32 : decode cX5_move 32 = .ok (.aload_n 0, 1) := by decide +kernel
theorem dX5_move_33 : decode cX5_move 33 = .ok (.getfield 7, 3) := by decide +kernel
theorem dX5_move_36 : decode cX5_move 36 = .ok (.iconst 1, 1) := by decide +kernel
theorem dX5_move_37 : decode cX5_move 37 = .ok (.iload_n 1, 1) := by decide +kernel
theorem dX5_move_38 : decode cX5_move 38 = .ok (.iadd, 1) := by decide +kernel
theorem dX5_move_39 : decode cX5_move 39 = .ok (.iaload, 1) := by decide +kernel
theorem dX5_move_40 : decode cX5_move 40 = .ok (.ireturn, 1) := by decide +kernel
theorem dX5_clausesOf_0 : decode cX5_clausesOf 0 = .ok (.iconst 0, 1) := by decide +kernel
theorem dX5_clausesOf_1 : decode cX5_clausesOf 1 = .ok (.istore_n 2, 1) := by decide +kernel
theorem dX5_clausesOf_2 : decode cX5_clausesOf 2 = .ok (.iconst 0, 1) := by decide +kernel
theorem dX5_clausesOf_3 : decode cX5_clausesOf 3 = .ok (.istore_n 3, 1) := by decide +kernel
theorem dX5_clausesOf_4 : decode cX5_clausesOf 4 = .ok (.iload_n 3, 1) := by decide +kernel
theorem dX5_clausesOf_5 : decode cX5_clausesOf 5 = .ok (.aload_n 0, 1) := by decide +kernel
theorem dX5_clausesOf_6 : decode cX5_clausesOf 6 = .ok (.getfield 7, 3) := by decide +kernel
theorem dX5_clausesOf_9 : decode cX5_clausesOf 9 = .ok (.iconst 0, 1) := by decide +kernel
theorem dX5_clausesOf_10 : decode cX5_clausesOf 10 = .ok (.iaload, 1) := by decide +kernel
theorem dX5_clausesOf_11 : decode cX5_clausesOf 11 = .ok (.if_icmp .ge 29, 3) := by decide +kernel
theorem dX5_clausesOf_14 : decode cX5_clausesOf 14 = .ok (.iload_n 2, 1) := by decide +kernel
theorem dX5_clausesOf_15 : decode cX5_clausesOf 15 = .ok (.aload_n 0, 1) := by decide +kernel
theorem dX5_clausesOf_16 : decode cX5_clausesOf 16 = .ok (.getfield 7, 3) := by decide +kernel
theorem dX5_clausesOf_19 : decode cX5_clausesOf 19 = .ok (.iconst 1, 1) := by decide +kernel
theorem dX5_clausesOf_20 : decode cX5_clausesOf 20 = .ok (.iload_n 3, 1) := by decide +kernel
theorem dX5_clausesOf_21 : decode cX5_clausesOf 21 = .ok (.iadd, 1) := by decide +kernel
theorem dX5_clausesOf_22 : decode cX5_clausesOf 22 = .ok (.iaload, 1) := by decide +kernel
theorem dX5_clausesOf_23 : decode cX5_clausesOf 23 = .ok (.iload_n 1, 1) := by decide +kernel
theorem dX5_clausesOf_24 : decode cX5_clausesOf 24 = .ok (.if_icmp .ne 7, 3) := by decide +kernel
theorem dX5_clausesOf_27 : decode cX5_clausesOf 27 = .ok (.iconst 1, 1) := by decide +kernel
theorem dX5_clausesOf_28 : decode cX5_clausesOf 28 = .ok (.goto 4, 3) := by decide +kernel
theorem dX5_clausesOf_31 : decode cX5_clausesOf 31 = .ok (.iconst 0, 1) := by decide +kernel
theorem dX5_clausesOf_32 : decode cX5_clausesOf 32 = .ok (.iadd, 1) := by decide +kernel
theorem dX5_clausesOf_33 : decode cX5_clausesOf 33 = .ok (.istore_n 2, 1) := by decide +kernel
theorem dX5_clausesOf_34 : decode cX5_clausesOf 34 = .ok (.iinc 3 1, 3) := by decide +kernel
theorem dX5_clausesOf_37 : decode cX5_clausesOf 37 = .ok (.goto (-33), 3) := by decide +kernel
theorem dX5_clausesOf_40 : decode cX5_clausesOf 40 = .ok (.iload_n 2, 1) := by decide +kernel
theorem dX5_clausesOf_41 : decode cX5_clausesOf 41 = .ok (.ireturn, 1) := by decide +kernel
set_option maxRecDepth 20000 in
theorem ggX5_exchange_X5_know : GoodIn wsX5_exchange wsX5_know := goodIn_r _ [6, 7, 8, 1, 13, 14, 15, 16, 17, 18, 19, 20, 21, 22, 23, 24, 25, 26, 27, 28, 29, 30, 31, 32, 33, 34] (by decide +kernel) (by decide +kernel)
set_option maxRecDepth 20000 in
theorem gX5_exchange_X5_know : GoodIn wsX5_exchange (wsV RX5 101 RX5 yX5_know wsX5_know) := goodIn_app (goodIn_of _ (by decide +kernel)) ggX5_exchange_X5_know
set_option maxRecDepth 20000 in
theorem ggX5_exchange_X5_clausesOf : GoodIn wsX5_exchange wsX5_clausesOf := goodIn_r _ [12, 1, 13, 14, 15, 16, 17, 18, 19, 20, 21, 22, 23, 24, 25, 26, 27, 28, 29, 30, 31, 32, 33, 34] (by decide +kernel) (by decide +kernel)
set_option maxRecDepth 20000 in
theorem gX5_exchange_X5_clausesOf : GoodIn wsX5_exchange (wsV RX5 147 RX5 yX5_clausesOf wsX5_clausesOf) := goodIn_app (goodIn_of _ (by decide +kernel)) ggX5_exchange_X5_clausesOf
theorem dX5_exchange_0 : decode cX5_exchange 0 = .ok (.aload_n 0, 1) := by decide +kernel
theorem dX5_exchange_1 : decode cX5_exchange 1 = .ok (.getfield 7, 3) := by decide +kernel
theorem dX5_exchange_4 : decode cX5_exchange 4 = .ok (.iconst 0, 1) := by decide +kernel
theorem dX5_exchange_5 : decode cX5_exchange 5 = .ok (.iaload, 1) := by decide +kernel
theorem dX5_exchange_6 : decode cX5_exchange 6 = .ok (.ifCond .ne 6, 3) := by decide +kernel
theorem dX5_exchange_9 : decode cX5_exchange 9 = .ok (.bipush (-5), 2) := by decide +kernel
theorem dX5_exchange_11 : decode cX5_exchange 11 = .ok (.ireturn, 1) := by decide +kernel
theorem dX5_exchange_12 : decode cX5_exchange 12 = .ok (.aload_n 0, 1) := by decide +kernel
theorem dX5_exchange_13 : decode cX5_exchange 13 = .ok (.invokevirtual 101, 3) := by decide +kernel
theorem dX5_exchange_16 : decode cX5_exchange 16 = .ok (.iconst 0, 1) := by decide +kernel
theorem dX5_exchange_17 : decode cX5_exchange 17 = .ok (.istore_n 1, 1) := by decide +kernel
theorem dX5_exchange_18 : decode cX5_exchange 18 = .ok (.iload_n 1, 1) := by decide +kernel
theorem dX5_exchange_19 : decode cX5_exchange 19 = .ok (.aload_n 0, 1) := by decide +kernel
theorem dX5_exchange_20 : decode cX5_exchange 20 = .ok (.getfield 7, 3) := by decide +kernel
theorem dX5_exchange_23 : decode cX5_exchange 23 = .ok (.iconst 0, 1) := by decide +kernel
theorem dX5_exchange_24 : decode cX5_exchange 24 = .ok (.iaload, 1) := by decide +kernel
theorem dX5_exchange_25 : decode cX5_exchange 25 = .ok (.if_icmp .ge 27, 3) := by decide +kernel
theorem dX5_exchange_28 : decode cX5_exchange 28 = .ok (.aload_n 0, 1) := by decide +kernel
theorem dX5_exchange_29 : decode cX5_exchange 29 = .ok (.getfield 7, 3) := by decide +kernel
theorem dX5_exchange_32 : decode cX5_exchange 32 = .ok (.iconst 1, 1) := by decide +kernel
theorem dX5_exchange_33 : decode cX5_exchange 33 = .ok (.iload_n 1, 1) := by decide +kernel
theorem dX5_exchange_34 : decode cX5_exchange 34 = .ok (.iadd, 1) := by decide +kernel
theorem dX5_exchange_35 : decode cX5_exchange 35 = .ok (.iconst 1, 1) := by decide +kernel
theorem dX5_exchange_36 : decode cX5_exchange 36 = .ok (.aload_n 0, 1) := by decide +kernel
theorem dX5_exchange_37 : decode cX5_exchange 37 = .ok (.getfield 7, 3) := by decide +kernel
theorem dX5_exchange_40 : decode cX5_exchange 40 = .ok (.iconst 1, 1) := by decide +kernel
theorem dX5_exchange_41 : decode cX5_exchange 41 = .ok (.iload_n 1, 1) := by decide +kernel
theorem dX5_exchange_42 : decode cX5_exchange 42 = .ok (.iadd, 1) := by decide +kernel
theorem dX5_exchange_43 : decode cX5_exchange 43 = .ok (.iaload, 1) := by decide +kernel
theorem dX5_exchange_44 : decode cX5_exchange 44 = .ok (.isub, 1) := by decide +kernel
theorem dX5_exchange_45 : decode cX5_exchange 45 = .ok (.iastore, 1) := by decide +kernel
theorem dX5_exchange_46 : decode cX5_exchange 46 = .ok (.iinc 1 1, 3) := by decide +kernel
theorem dX5_exchange_49 : decode cX5_exchange 49 = .ok (.goto (-31), 3) := by decide +kernel
theorem dX5_exchange_52 : decode cX5_exchange 52 = .ok (.aload_n 0, 1) := by decide +kernel
theorem dX5_exchange_53 : decode cX5_exchange 53 = .ok (.iconst 0, 1) := by decide +kernel
theorem dX5_exchange_54 : decode cX5_exchange 54 = .ok (.invokevirtual 147, 3) := by decide +kernel
theorem dX5_exchange_57 : decode cX5_exchange 57 = .ok (.ireturn, 1) := by decide +kernel
set_option maxRecDepth 20000 in
theorem ggX5_shrink_X5_prove : GoodIn wsX5_shrink wsX5_prove := goodIn_r _ [7, 8, 9, 10, 11, 1, 12, 13, 2, 14, 15, 16, 17, 18, 6, 19, 20, 21, 22, 23, 38, 39, 40, 41, 42, 43, 44, 45, 46, 47, 48, 49, 50, 51, 52, 53, 54, 55, 56, 57, 58, 59] (by decide +kernel) (by decide +kernel)
set_option maxRecDepth 20000 in
theorem gX5_shrink_X5_prove : GoodIn wsX5_shrink (wsV RX5 150 RX5 yX5_prove wsX5_prove) := goodIn_app (goodIn_of _ (by decide +kernel)) ggX5_shrink_X5_prove
set_option maxRecDepth 20000 in
theorem ggX5_shrink_X5_isProved : GoodIn wsX5_shrink wsX5_isProved := goodIn_r _ [27, 11, 10, 38, 39, 40, 41, 42, 43, 44, 45, 46, 47, 48, 49, 50, 51, 52, 53, 54, 55, 56, 57, 58, 59] (by decide +kernel) (by decide +kernel)
set_option maxRecDepth 20000 in
theorem gX5_shrink_X5_isProved : GoodIn wsX5_shrink (wsV RX5 153 RX5 yX5_isProved wsX5_isProved) := goodIn_app (goodIn_of _ (by decide +kernel)) ggX5_shrink_X5_isProved
set_option maxRecDepth 20000 in
theorem ggX5_shrink_X5_know : GoodIn wsX5_shrink wsX5_know := goodIn_r _ [31, 32, 33, 1, 38, 39, 40, 41, 42, 43, 44, 45, 46, 47, 48, 49, 50, 51, 52, 53, 54, 55, 56, 57, 58, 59] (by decide +kernel) (by decide +kernel)
set_option maxRecDepth 20000 in
theorem gX5_shrink_X5_know : GoodIn wsX5_shrink (wsV RX5 101 RX5 yX5_know wsX5_know) := goodIn_app (goodIn_of _ (by decide +kernel)) ggX5_shrink_X5_know
set_option maxRecDepth 20000 in
theorem ggX5_shrink_X5_drop : GoodIn wsX5_shrink wsX5_drop := goodIn_r _ [37, 1, 38, 39, 40, 41, 42, 43, 44, 45, 46, 47, 48, 49, 50, 51, 52, 53, 54, 55, 56, 57, 58, 59] (by decide +kernel) (by decide +kernel)
set_option maxRecDepth 20000 in
theorem gX5_shrink_X5_drop : GoodIn wsX5_shrink (wsV RX5 144 RX5 yX5_drop wsX5_drop) := goodIn_app (goodIn_of _ (by decide +kernel)) ggX5_shrink_X5_drop
theorem dX5_shrink_0 : decode cX5_shrink 0 = .ok (.aload_n 0, 1) := by decide +kernel
theorem dX5_shrink_1 : decode cX5_shrink 1 = .ok (.invokevirtual 150, 3) := by decide +kernel
theorem dX5_shrink_4 : decode cX5_shrink 4 = .ok (.aload_n 0, 1) := by decide +kernel
theorem dX5_shrink_5 : decode cX5_shrink 5 = .ok (.invokevirtual 153, 3) := by decide +kernel
theorem dX5_shrink_8 : decode cX5_shrink 8 = .ok (.ifCond .ne 6, 3) := by decide +kernel
theorem dX5_shrink_11 : decode cX5_shrink 11 = .ok (.bipush (-4), 2) := by decide +kernel
theorem dX5_shrink_13 : decode cX5_shrink 13 = .ok (.ireturn, 1) := by decide +kernel
theorem dX5_shrink_14 : decode cX5_shrink 14 = .ok (.iconst 0, 1) := by decide +kernel
theorem dX5_shrink_15 : decode cX5_shrink 15 = .ok (.istore_n 1, 1) := by decide +kernel
theorem dX5_shrink_16 : decode cX5_shrink 16 = .ok (.iconst 0, 1) := by decide +kernel
theorem dX5_shrink_17 : decode cX5_shrink 17 = .ok (.istore_n 2, 1) := by decide +kernel
theorem dX5_shrink_18 : decode cX5_shrink 18 = .ok (.iload_n 2, 1) := by decide +kernel
theorem dX5_shrink_19 : decode cX5_shrink 19 = .ok (.aload_n 0, 1) := by decide +kernel
theorem dX5_shrink_20 : decode cX5_shrink 20 = .ok (.getfield 7, 3) := by decide +kernel
theorem dX5_shrink_23 : decode cX5_shrink 23 = .ok (.iconst 0, 1) := by decide +kernel
theorem dX5_shrink_24 : decode cX5_shrink 24 = .ok (.iaload, 1) := by decide +kernel
theorem dX5_shrink_25 : decode cX5_shrink 25 = .ok (.if_icmp .ge 28, 3) := by decide +kernel
theorem dX5_shrink_28 : decode cX5_shrink 28 = .ok (.iload_n 1, 1) := by decide +kernel
theorem dX5_shrink_29 : decode cX5_shrink 29 = .ok (.ifCond .ne 12, 3) := by decide +kernel
theorem dX5_shrink_32 : decode cX5_shrink 32 = .ok (.aload_n 0, 1) := by decide +kernel
theorem dX5_shrink_33 : decode cX5_shrink 33 = .ok (.getfield 37, 3) := by decide +kernel
theorem dX5_shrink_36 : decode cX5_shrink 36 = .ok (.iload_n 2, 1) := by decide +kernel
theorem dX5_shrink_37 : decode cX5_shrink 37 = .ok (.baload, 1) := by decide +kernel
theorem dX5_shrink_38 : decode cX5_shrink 38 = .ok (.ifCond .ne 7, 3) := by decide +kernel
theorem dX5_shrink_41 : decode cX5_shrink 41 = .ok (.iconst 1, 1) := by decide +kernel
theorem dX5_shrink_42 : decode cX5_shrink 42 = .ok (.goto 4, 3) := by decide +kernel
theorem dX5_shrink_45 : decode cX5_shrink 45 = .ok (.iconst 0, 1) := by decide +kernel
theorem dX5_shrink_46 : decode cX5_shrink 46 = .ok (.istore_n 1, 1) := by decide +kernel
theorem dX5_shrink_47 : decode cX5_shrink 47 = .ok (.iinc 2 1, 3) := by decide +kernel
theorem dX5_shrink_50 : decode cX5_shrink 50 = .ok (.goto (-32), 3) := by decide +kernel
theorem dX5_shrink_53 : decode cX5_shrink 53 = .ok (.iload_n 1, 1) := by decide +kernel
theorem dX5_shrink_54 : decode cX5_shrink 54 = .ok (.ifCond .ne 6, 3) := by decide +kernel
theorem dX5_shrink_57 : decode cX5_shrink 57 = .ok (.bipush (-5), 2) := by decide +kernel
theorem dX5_shrink_59 : decode cX5_shrink 59 = .ok (.ireturn, 1) := by decide +kernel
theorem dX5_shrink_60 : decode cX5_shrink 60 = .ok (.aload_n 0, 1) := by decide +kernel
theorem dX5_shrink_61 : decode cX5_shrink 61 = .ok (.invokevirtual 101, 3) := by decide +kernel
theorem dX5_shrink_64 : decode cX5_shrink 64 = .ok (.aload_n 0, 1) := by decide +kernel
theorem dX5_shrink_65 : decode cX5_shrink 65 = .ok (.getfield 7, 3) := by decide +kernel
theorem dX5_shrink_68 : decode cX5_shrink 68 = .ok (.iconst 0, 1) := by decide +kernel
theorem dX5_shrink_69 : decode cX5_shrink 69 = .ok (.iaload, 1) := by decide +kernel
theorem dX5_shrink_70 : decode cX5_shrink 70 = .ok (.iconst 1, 1) := by decide +kernel
theorem dX5_shrink_71 : decode cX5_shrink 71 = .ok (.isub, 1) := by decide +kernel
theorem dX5_shrink_72 : decode cX5_shrink 72 = .ok (.istore_n 2, 1) := by decide +kernel
theorem dX5_shrink_73 : decode cX5_shrink 73 = .ok (.iload_n 2, 1) := by decide +kernel
theorem dX5_shrink_74 : decode cX5_shrink 74 = .ok (.ifCond .lt 23, 3) := by decide +kernel
theorem dX5_shrink_77 : decode cX5_shrink 77 = .ok (.aload_n 0, 1) := by decide +kernel
theorem dX5_shrink_78 : decode cX5_shrink 78 = .ok (.getfield 37, 3) := by decide +kernel
theorem dX5_shrink_81 : decode cX5_shrink 81 = .ok (.iload_n 2, 1) := by decide +kernel
theorem dX5_shrink_82 : decode cX5_shrink 82 = .ok (.baload, 1) := by decide +kernel
theorem dX5_shrink_83 : decode cX5_shrink 83 = .ok (.ifCond .ne 8, 3) := by decide +kernel
theorem dX5_shrink_86 : decode cX5_shrink 86 = .ok (.aload_n 0, 1) := by decide +kernel
theorem dX5_shrink_87 : decode cX5_shrink 87 = .ok (.iload_n 2, 1) := by decide +kernel
theorem dX5_shrink_88 : decode cX5_shrink 88 = .ok (.invokevirtual 144, 3) := by decide +kernel
theorem dX5_shrink_91 : decode cX5_shrink 91 = .ok (.iinc 2 (-1), 3) := by decide +kernel
theorem dX5_shrink_94 : decode cX5_shrink 94 = .ok (.goto (-21), 3) := by decide +kernel
theorem dX5_shrink_97 : decode cX5_shrink 97 = .ok (.aload_n 0, 1) := by decide +kernel
theorem dX5_shrink_98 : decode cX5_shrink 98 = .ok (.getfield 7, 3) := by decide +kernel
theorem dX5_shrink_101 : decode cX5_shrink 101 = .ok (.iconst 0, 1) := by decide +kernel
theorem dX5_shrink_102 : decode cX5_shrink 102 = .ok (.iaload, 1) := by decide +kernel
theorem dX5_shrink_103 : decode cX5_shrink 103 = .ok (.ireturn, 1) := by decide +kernel
theorem dX5_type_0 : decode cX5_type 0 = .ok (.aload_n 0, 1) := by decide +kernel
theorem dX5_type_1 : decode cX5_type 1 = .ok (.getfield 111, 3) := by decide +kernel
theorem dX5_type_4 : decode cX5_type 4 = .ok (.bipush 60, 2) := by decide +kernel
theorem dX5_type_6 : decode cX5_type 6 = .ok (.if_icmp .ne 6, 3) := by decide +kernel
theorem dX5_type_9 : decode cX5_type 9 = .ok (.bipush (-3), 2) := by decide +kernel
theorem dX5_type_11 : decode cX5_type 11 = .ok (.ireturn, 1) := by decide +kernel
theorem dX5_type_12 : decode cX5_type 12 = .ok (.aload_n 0, 1) := by decide +kernel
theorem dX5_type_13 : decode cX5_type 13 = .ok (.getfield 19, 3) := by decide +kernel
theorem dX5_type_16 : decode cX5_type 16 = .ok (.aload_n 0, 1) := by decide +kernel
theorem dX5_type_17 : decode cX5_type 17 = .ok (.getfield 111, 3) := by decide +kernel
theorem dX5_type_20 : decode cX5_type 20 = .ok (.iload_n 1, 1) := by decide +kernel
theorem dX5_type_21 : decode cX5_type 21 = .ok (.iastore, 1) := by decide +kernel
theorem dX5_type_22 : decode cX5_type 22 = .ok (.aload_n 0, 1) := by decide +kernel
theorem dX5_type_23 : decode cX5_type 23 = .ok (.dup, 1) := by decide +kernel
theorem dX5_type_24 : decode cX5_type 24 = .ok (.getfield 111, 3) := by decide +kernel
theorem dX5_type_27 : decode cX5_type 27 = .ok (.iconst 1, 1) := by decide +kernel
theorem dX5_type_28 : decode cX5_type 28 = .ok (.iadd, 1) := by decide +kernel
theorem dX5_type_29 : decode cX5_type 29 = .ok (.putfield 111, 3) := by decide +kernel
theorem dX5_type_32 : decode cX5_type 32 = .ok (.aload_n 0, 1) := by decide +kernel
theorem dX5_type_33 : decode cX5_type 33 = .ok (.getfield 111, 3) := by decide +kernel
theorem dX5_type_36 : decode cX5_type 36 = .ok (.ireturn, 1) := by decide +kernel
theorem dX5_clearText_0 : decode cX5_clearText 0 = .ok (.aload_n 0, 1) := by decide +kernel
theorem dX5_clearText_1 : decode cX5_clearText 1 = .ok (.getfield 111, 3) := by decide +kernel
theorem dX5_clearText_4 : decode cX5_clearText 4 = .ok (.istore_n 1, 1) := by decide +kernel
theorem dX5_clearText_5 : decode cX5_clearText 5 = .ok (.aload_n 0, 1) := by decide +kernel
theorem dX5_clearText_6 : decode cX5_clearText 6 = .ok (.iconst 0, 1) := by decide +kernel
theorem dX5_clearText_7 : decode cX5_clearText 7 = .ok (.putfield 111, 3) := by decide +kernel
theorem dX5_clearText_10 : decode cX5_clearText 10 = .ok (.iload_n 1, 1) := by decide +kernel
theorem dX5_clearText_11 : decode cX5_clearText 11 = .ok (.ireturn, 1) := by decide +kernel
theorem dX5_undo_0 : decode cX5_undo 0 = .ok (.aload_n 0, 1) := by decide +kernel
theorem dX5_undo_1 : decode cX5_undo 1 = .ok (.getfield 52, 3) := by decide +kernel
theorem dX5_undo_4 : decode cX5_undo 4 = .ok (.ifCond .ne 6, 3) := by decide +kernel
theorem dX5_undo_7 : decode cX5_undo 7 = .ok (.bipush (-5), 2) := by decide +kernel
theorem dX5_undo_9 : decode cX5_undo 9 = .ok (.ireturn, 1) := by decide +kernel
theorem dX5_undo_10 : decode cX5_undo 10 = .ok (.aload_n 0, 1) := by decide +kernel
theorem dX5_undo_11 : decode cX5_undo 11 = .ok (.dup, 1) := by decide +kernel
theorem dX5_undo_12 : decode cX5_undo 12 = .ok (.getfield 52, 3) := by decide +kernel
theorem dX5_undo_15 : decode cX5_undo 15 = .ok (.iconst 1, 1) := by decide +kernel
theorem dX5_undo_16 : decode cX5_undo 16 = .ok (.isub, 1) := by decide +kernel
theorem dX5_undo_17 : decode cX5_undo 17 = .ok (.putfield 52, 3) := by decide +kernel
theorem dX5_undo_20 : decode cX5_undo 20 = .ok (.iconst 0, 1) := by decide +kernel
theorem dX5_undo_21 : decode cX5_undo 21 = .ok (.istore_n 1, 1) := by decide +kernel
theorem dX5_undo_22 : decode cX5_undo 22 = .ok (.iload_n 1, 1) := by decide +kernel
theorem dX5_undo_23 : decode cX5_undo 23 = .ok (.bipush 73, 2) := by decide +kernel
theorem dX5_undo_25 : decode cX5_undo 25 = .ok (.if_icmp .ge 29, 3) := by decide +kernel
theorem dX5_undo_28 : decode cX5_undo 28 = .ok (.aload_n 0, 1) := by decide +kernel
theorem dX5_undo_29 : decode cX5_undo 29 = .ok (.getfield 7, 3) := by decide +kernel
theorem dX5_undo_32 : decode cX5_undo 32 = .ok (.iload_n 1, 1) := by decide +kernel
theorem dX5_undo_33 : decode cX5_undo 33 = .ok (.aload_n 0, 1) := by decide +kernel
theorem dX5_undo_34 : decode cX5_undo 34 = .ok (.getfield 13, 3) := by decide +kernel
theorem dX5_undo_37 : decode cX5_undo 37 = .ok (.bipush 73, 2) := by decide +kernel
theorem dX5_undo_39 : decode cX5_undo 39 = .ok (.aload_n 0, 1) := by decide +kernel
theorem dX5_undo_40 : decode cX5_undo 40 = .ok (.getfield 52, 3) := by decide +kernel
theorem dX5_undo_43 : decode cX5_undo 43 = .ok (.imul, 1) := by decide +kernel
theorem dX5_undo_44 : decode cX5_undo 44 = .ok (.iload_n 1, 1) := by decide +kernel
theorem dX5_undo_45 : decode cX5_undo 45 = .ok (.iadd, 1) := by decide +kernel
theorem dX5_undo_46 : decode cX5_undo 46 = .ok (.iaload, 1) := by decide +kernel
theorem dX5_undo_47 : decode cX5_undo 47 = .ok (.iastore, 1) := by decide +kernel
theorem dX5_undo_48 : decode cX5_undo 48 = .ok (.iinc 1 1, 3) := by decide +kernel
theorem dX5_undo_51 : decode cX5_undo 51 = .ok (.goto (-29), 3) := by decide +kernel
theorem dX5_undo_54 : decode cX5_undo 54 = .ok (.aload_n 0, 1) := by decide +kernel
theorem dX5_undo_55 : decode cX5_undo 55 = .ok (.getfield 52, 3) := by decide +kernel
theorem dX5_undo_58 : decode cX5_undo 58 = .ok (.ireturn, 1) := by decide +kernel
theorem dX5_keep_0 : decode cX5_keep 0 = .ok (.iconst 0, 1) := by decide +kernel
theorem dX5_keep_1 : decode cX5_keep 1 = .ok (.istore_n 1, 1) := by decide +kernel
theorem dX5_keep_2 : decode cX5_keep 2 = .ok (.iload_n 1, 1) := by decide +kernel
theorem dX5_keep_3 : decode cX5_keep 3 = .ok (.bipush 73, 2) := by decide +kernel
theorem dX5_keep_5 : decode cX5_keep 5 = .ok (.if_icmp .ge 21, 3) := by decide +kernel
theorem dX5_keep_8 : decode cX5_keep 8 = .ok (.aload_n 0, 1) := by decide +kernel
theorem dX5_keep_9 : decode cX5_keep 9 = .ok (.getfield 16, 3) := by decide +kernel
theorem dX5_keep_12 : decode cX5_keep 12 = .ok (.iload_n 1, 1) := by decide +kernel
theorem dX5_keep_13 : decode cX5_keep 13 = .ok (.aload_n 0, 1) := by decide +kernel
theorem dX5_keep_14 : decode cX5_keep 14 = .ok (.getfield 7, 3) := by decide +kernel
theorem dX5_keep_17 : decode cX5_keep 17 = .ok (.iload_n 1, 1) := by decide +kernel
theorem dX5_keep_18 : decode cX5_keep 18 = .ok (.iaload, 1) := by decide +kernel
theorem dX5_keep_19 : decode cX5_keep 19 = .ok (.iastore, 1) := by decide +kernel
theorem dX5_keep_20 : decode cX5_keep 20 = .ok (.iinc 1 1, 3) := by decide +kernel
theorem dX5_keep_23 : decode cX5_keep 23 = .ok (.goto (-21), 3) := by decide +kernel
theorem dX5_keep_26 : decode cX5_keep 26 = .ok (.aload_n 0, 1) := by decide +kernel
theorem dX5_keep_27 : decode cX5_keep 27 = .ok (.iconst 1, 1) := by decide +kernel
theorem dX5_keep_28 : decode cX5_keep 28 = .ok (.putfield 157, 3) := by decide +kernel
theorem dX5_keep_31 : decode cX5_keep 31 = .ok (.aload_n 0, 1) := by decide +kernel
theorem dX5_keep_32 : decode cX5_keep 32 = .ok (.getfield 7, 3) := by decide +kernel
theorem dX5_keep_35 : decode cX5_keep 35 = .ok (.iconst 0, 1) := by decide +kernel
theorem dX5_keep_36 : decode cX5_keep 36 = .ok (.iaload, 1) := by decide +kernel
theorem dX5_keep_37 : decode cX5_keep 37 = .ok (.ireturn, 1) := by decide +kernel
set_option maxRecDepth 20000 in
theorem ggX5_restore_X5_know : GoodIn wsX5_restore wsX5_know := goodIn_r _ [8, 9, 10, 2, 11, 12, 13, 14, 15, 16, 17, 18, 19, 20, 21, 22, 23, 24, 25, 26, 27, 28, 29, 30, 31, 32] (by decide +kernel) (by decide +kernel)
set_option maxRecDepth 20000 in
theorem gX5_restore_X5_know : GoodIn wsX5_restore (wsV RX5 101 RX5 yX5_know wsX5_know) := goodIn_app (goodIn_of _ (by decide +kernel)) ggX5_restore_X5_know
theorem dX5_restore_0 : decode cX5_restore 0 = .ok (.aload_n 0, 1) := by decide +kernel
theorem dX5_restore_1 : decode cX5_restore 1 = .ok (.getfield 157, 3) := by decide +kernel
theorem dX5_restore_4 : decode cX5_restore 4 = .ok (.ifCond .ne 6, 3) := by decide +kernel
theorem dX5_restore_7 : decode cX5_restore 7 = .ok (.bipush (-5), 2) := by decide +kernel
theorem dX5_restore_9 : decode cX5_restore 9 = .ok (.ireturn, 1) := by decide +kernel
theorem dX5_restore_10 : decode cX5_restore 10 = .ok (.aload_n 0, 1) := by decide +kernel
theorem dX5_restore_11 : decode cX5_restore 11 = .ok (.invokevirtual 101, 3) := by decide +kernel
theorem dX5_restore_14 : decode cX5_restore 14 = .ok (.iconst 0, 1) := by decide +kernel
theorem dX5_restore_15 : decode cX5_restore 15 = .ok (.istore_n 1, 1) := by decide +kernel
theorem dX5_restore_16 : decode cX5_restore 16 = .ok (.iload_n 1, 1) := by decide +kernel
theorem dX5_restore_17 : decode cX5_restore 17 = .ok (.bipush 73, 2) := by decide +kernel
theorem dX5_restore_19 : decode cX5_restore 19 = .ok (.if_icmp .ge 21, 3) := by decide +kernel
theorem dX5_restore_22 : decode cX5_restore 22 = .ok (.aload_n 0, 1) := by decide +kernel
theorem dX5_restore_23 : decode cX5_restore 23 = .ok (.getfield 7, 3) := by decide +kernel
theorem dX5_restore_26 : decode cX5_restore 26 = .ok (.iload_n 1, 1) := by decide +kernel
theorem dX5_restore_27 : decode cX5_restore 27 = .ok (.aload_n 0, 1) := by decide +kernel
theorem dX5_restore_28 : decode cX5_restore 28 = .ok (.getfield 16, 3) := by decide +kernel
theorem dX5_restore_31 : decode cX5_restore 31 = .ok (.iload_n 1, 1) := by decide +kernel
theorem dX5_restore_32 : decode cX5_restore 32 = .ok (.iaload, 1) := by decide +kernel
theorem dX5_restore_33 : decode cX5_restore 33 = .ok (.iastore, 1) := by decide +kernel
theorem dX5_restore_34 : decode cX5_restore 34 = .ok (.iinc 1 1, 3) := by decide +kernel
theorem dX5_restore_37 : decode cX5_restore 37 = .ok (.goto (-21), 3) := by decide +kernel
theorem dX5_restore_40 : decode cX5_restore 40 = .ok (.aload_n 0, 1) := by decide +kernel
theorem dX5_restore_41 : decode cX5_restore 41 = .ok (.getfield 7, 3) := by decide +kernel
theorem dX5_restore_44 : decode cX5_restore 44 = .ok (.iconst 0, 1) := by decide +kernel
theorem dX5_restore_45 : decode cX5_restore 45 = .ok (.iaload, 1) := by decide +kernel
theorem dX5_restore_46 : decode cX5_restore 46 = .ok (.ireturn, 1) := by decide +kernel
set_option maxRecDepth 20000 in
theorem ggX5_clause_X5_isClause : GoodIn wsX5_clause wsX5_isClause := goodIn_r _ [7, 1, 8, 9, 6, 10, 45, 46, 47, 48, 49, 50, 51, 52, 53, 54, 55, 56, 57, 58, 59, 60, 61, 62, 63, 64, 65, 66] (by decide +kernel) (by decide +kernel)
set_option maxRecDepth 20000 in
theorem gX5_clause_X5_isClause : GoodIn wsX5_clause (wsV RX5 141 RX5 yX5_isClause wsX5_isClause) := goodIn_app (goodIn_of _ (by decide +kernel)) ggX5_clause_X5_isClause
set_option maxRecDepth 20000 in
theorem ggX5_clause_X5_worldsOfClause : GoodIn wsX5_clause wsX5_worldsOfClause := goodIn_r _ [14, 1, 15, 16, 6, 17, 45, 46, 47, 48, 49, 50, 51, 52, 53, 54, 55, 56, 57, 58, 59, 60, 61, 62, 63, 64, 65, 66] (by decide +kernel) (by decide +kernel)
set_option maxRecDepth 20000 in
theorem gX5_clause_X5_worldsOfClause : GoodIn wsX5_clause (wsV RX5 62 RX5 yX5_worldsOfClause wsX5_worldsOfClause) := goodIn_app (goodIn_of _ (by decide +kernel)) ggX5_clause_X5_worldsOfClause
set_option maxRecDepth 20000 in
theorem ggX5_clause_X5_bitsOf : GoodIn wsX5_clause wsX5_bitsOf := goodIn_r _ [20] (by decide +kernel) (by decide +kernel)
set_option maxRecDepth 20000 in
theorem gX5_clause_X5_bitsOf : GoodIn wsX5_clause (va_wsS RX5 160 yX5_bitsOf wsX5_bitsOf) := goodIn_app (goodIn_of _ (by decide +kernel)) ggX5_clause_X5_bitsOf
set_option maxRecDepth 20000 in
theorem ggX5_clause_X5_prove : GoodIn wsX5_clause wsX5_prove := goodIn_r _ [24, 25, 26, 27, 28, 1, 29, 30, 2, 31, 32, 33, 34, 35, 6, 36, 37, 38, 39, 40, 45, 46, 47, 48, 49, 50, 51, 52, 53, 54, 55, 56, 57, 58, 59, 60, 61, 62, 63, 64, 65, 66] (by decide +kernel) (by decide +kernel)
set_option maxRecDepth 20000 in
theorem gX5_clause_X5_prove : GoodIn wsX5_clause (wsV RX5 150 RX5 yX5_prove wsX5_prove) := goodIn_app (goodIn_of _ (by decide +kernel)) ggX5_clause_X5_prove
set_option maxRecDepth 20000 in
theorem ggX5_clause_X5_isProved : GoodIn wsX5_clause wsX5_isProved := goodIn_r _ [44, 28, 27, 45, 46, 47, 48, 49, 50, 51, 52, 53, 54, 55, 56, 57, 58, 59, 60, 61, 62, 63, 64, 65, 66] (by decide +kernel) (by decide +kernel)
set_option maxRecDepth 20000 in
theorem gX5_clause_X5_isProved : GoodIn wsX5_clause (wsV RX5 153 RX5 yX5_isProved wsX5_isProved) := goodIn_app (goodIn_of _ (by decide +kernel)) ggX5_clause_X5_isProved
theorem dX5_clause_0 : decode cX5_clause 0 = .ok (.aload_n 0, 1) := by decide +kernel
theorem dX5_clause_1 : decode cX5_clause 1 = .ok (.iload_n 1, 1) := by decide +kernel
theorem dX5_clause_2 : decode cX5_clause 2 = .ok (.invokevirtual 141, 3) := by decide +kernel
theorem dX5_clause_5 : decode cX5_clause 5 = .ok (.ifCond .ne 5, 3) := by decide +kernel
theorem dX5_clause_8 : decode cX5_clause 8 = .ok (.iconst (-1), 1) := by decide +kernel
theorem dX5_clause_9 : decode cX5_clause 9 = .ok (.ireturn, 1) := by decide +kernel
theorem dX5_clause_10 : decode cX5_clause 10 = .ok (.iload_n 2, 1) := by decide +kernel
theorem dX5_clause_11 : decode cX5_clause 11 = .ok (.tableswitch 97 0 4 #[33, 42, 52, 62, 71], 33) := by decide +kernel
theorem dX5_clause_44 : decode cX5_clause 44 = .ok (.aload_n 0, 1) := by decide +kernel
theorem dX5_clause_45 : decode cX5_clause 45 = .ok (.getfield 7, 3) := by decide +kernel
theorem dX5_clause_48 : decode cX5_clause 48 = .ok (.iconst 1, 1) := by decide +kernel
theorem dX5_clause_49 : decode cX5_clause 49 = .ok (.iload_n 1, 1) := by decide +kernel
theorem dX5_clause_50 : decode cX5_clause 50 = .ok (.iadd, 1) := by decide +kernel
theorem dX5_clause_51 : decode cX5_clause 51 = .ok (.iaload, 1) := by decide +kernel
theorem dX5_clause_52 : decode cX5_clause 52 = .ok (.ireturn, 1) := by decide +kernel
theorem dX5_clause_53 : decode cX5_clause 53 = .ok (.aload_n 0, 1) := by decide +kernel
theorem dX5_clause_54 : decode cX5_clause 54 = .ok (.getfield 7, 3) := by decide +kernel
theorem dX5_clause_57 : decode cX5_clause 57 = .ok (.bipush 25, 2) := by decide +kernel
theorem dX5_clause_59 : decode cX5_clause 59 = .ok (.iload_n 1, 1) := by decide +kernel
theorem dX5_clause_60 : decode cX5_clause 60 = .ok (.iadd, 1) := by decide +kernel
theorem dX5_clause_61 : decode cX5_clause 61 = .ok (.iaload, 1) := by decide +kernel
theorem dX5_clause_62 : decode cX5_clause 62 = .ok (.ireturn, 1) := by decide +kernel
theorem dX5_clause_63 : decode cX5_clause 63 = .ok (.aload_n 0, 1) := by decide +kernel
theorem dX5_clause_64 : decode cX5_clause 64 = .ok (.getfield 7, 3) := by decide +kernel
theorem dX5_clause_67 : decode cX5_clause 67 = .ok (.bipush 49, 2) := by decide +kernel
theorem dX5_clause_69 : decode cX5_clause 69 = .ok (.iload_n 1, 1) := by decide +kernel
theorem dX5_clause_70 : decode cX5_clause 70 = .ok (.iadd, 1) := by decide +kernel
theorem dX5_clause_71 : decode cX5_clause 71 = .ok (.iaload, 1) := by decide +kernel
theorem dX5_clause_72 : decode cX5_clause 72 = .ok (.ireturn, 1) := by decide +kernel
theorem dX5_clause_73 : decode cX5_clause 73 = .ok (.aload_n 0, 1) := by decide +kernel
theorem dX5_clause_74 : decode cX5_clause 74 = .ok (.iload_n 1, 1) := by decide +kernel
theorem dX5_clause_75 : decode cX5_clause 75 = .ok (.invokevirtual 62, 3) := by decide +kernel
theorem dX5_clause_78 : decode cX5_clause 78 = .ok (.invokestatic 160, 3) := by decide +kernel
theorem dX5_clause_81 : decode cX5_clause 81 = .ok (.ireturn, 1) := by decide +kernel
theorem dX5_clause_82 : decode cX5_clause 82 = .ok (.aload_n 0, 1) := by decide +kernel
theorem dX5_clause_83 : decode cX5_clause 83 = .ok (.invokevirtual 150, 3) := by decide +kernel
theorem dX5_clause_86 : decode cX5_clause 86 = .ok (.aload_n 0, 1) := by decide +kernel
theorem dX5_clause_87 : decode cX5_clause 87 = .ok (.invokevirtual 153, 3) := by decide +kernel
theorem dX5_clause_90 : decode cX5_clause 90 = .ok (.ifCond .eq 16, 3) := by decide +kernel
theorem dX5_clause_93 : decode cX5_clause 93 = .ok (.aload_n 0, 1) := by decide +kernel
theorem dX5_clause_94 : decode cX5_clause 94 = .ok (.getfield 37, 3) := by decide +kernel
theorem dX5_clause_97 : decode cX5_clause 97 = .ok (.iload_n 1, 1) := by decide +kernel
theorem dX5_clause_98 : decode cX5_clause 98 = .ok (.baload, 1) := by decide +kernel
theorem dX5_clause_99 : decode cX5_clause 99 = .ok (.ifCond .eq 7, 3) := by decide +kernel
theorem dX5_clause_102 : decode cX5_clause 102 = .ok (.iconst 1, 1) := by decide +kernel
theorem dX5_clause_103 : decode cX5_clause 103 = .ok (.goto 4, 3) := by decide +kernel
theorem dX5_clause_106 : decode cX5_clause 106 = .ok (.iconst 0, 1) := by decide +kernel
theorem dX5_clause_107 : decode cX5_clause 107 = .ok (.ireturn, 1) := by decide +kernel
theorem dX5_clause_108 : decode cX5_clause 108 = .ok (.bipush (-2), 2) := by decide +kernel
theorem dX5_clause_110 : decode cX5_clause 110 = .ok (.ireturn, 1) := by decide +kernel
theorem dX5_lowest_0 : decode cX5_lowest 0 = .ok (.iconst 0, 1) := by decide +kernel
theorem dX5_lowest_1 : decode cX5_lowest 1 = .ok (.istore_n 2, 1) := by decide +kernel
theorem dX5_lowest_2 : decode cX5_lowest 2 = .ok (.iload_n 2, 1) := by decide +kernel
theorem dX5_lowest_3 : decode cX5_lowest 3 = .ok (.bipush 64, 2) := by decide +kernel
theorem dX5_lowest_5 : decode cX5_lowest 5 = .ok (.if_icmp .ge 21, 3) := by decide +kernel
theorem dX5_lowest_8 : decode cX5_lowest 8 = .ok (.lload_n 0, 1) := by decide +kernel
theorem dX5_lowest_9 : decode cX5_lowest 9 = .ok (.iload_n 2, 1) := by decide +kernel
theorem dX5_lowest_10 : decode cX5_lowest 10 = .ok (.lushr, 1) := by decide +kernel
theorem dX5_lowest_11 : decode cX5_lowest 11 = .ok (.lconst 1, 1) := by decide +kernel
theorem dX5_lowest_12 : decode cX5_lowest 12 = .ok (.land, 1) := by decide +kernel
theorem dX5_lowest_13 : decode cX5_lowest 13 = .ok (.lconst 1, 1) := by decide +kernel
theorem dX5_lowest_14 : decode cX5_lowest 14 = .ok (.lcmp, 1) := by decide +kernel
theorem dX5_lowest_15 : decode cX5_lowest 15 = .ok (.ifCond .ne 5, 3) := by decide +kernel
theorem dX5_lowest_18 : decode cX5_lowest 18 = .ok (.iload_n 2, 1) := by decide +kernel
theorem dX5_lowest_19 : decode cX5_lowest 19 = .ok (.ireturn, 1) := by decide +kernel
theorem dX5_lowest_20 : decode cX5_lowest 20 = .ok (.iinc 2 1, 3) := by decide +kernel
theorem dX5_lowest_23 : decode cX5_lowest 23 = .ok (.goto (-21), 3) := by decide +kernel
theorem dX5_lowest_26 : decode cX5_lowest 26 = .ok (.bipush (-5), 2) := by decide +kernel
theorem dX5_lowest_28 : decode cX5_lowest 28 = .ok (.ireturn, 1) := by decide +kernel
set_option maxRecDepth 20000 in
theorem ggX5_side_X5_in : GoodIn wsX5_side wsX5_in := goodIn_r _ [4] (by decide +kernel) (by decide +kernel)
set_option maxRecDepth 20000 in
theorem gX5_side_X5_in : GoodIn wsX5_side (va_wsS RX5 48 yX5_in wsX5_in) := goodIn_app (goodIn_of _ (by decide +kernel)) ggX5_side_X5_in
set_option maxRecDepth 20000 in
theorem ggX5_side_X5_clausesOf : GoodIn wsX5_side wsX5_clausesOf := goodIn_r _ [8, 9, 32, 33, 34, 35, 36, 37, 38, 39, 40, 41, 42, 43, 44, 45, 46, 47, 48, 49, 50, 51, 52, 53] (by decide +kernel) (by decide +kernel)
set_option maxRecDepth 20000 in
theorem gX5_side_X5_clausesOf : GoodIn wsX5_side (wsV RX5 147 RX5 yX5_clausesOf wsX5_clausesOf) := goodIn_app (goodIn_of _ (by decide +kernel)) ggX5_side_X5_clausesOf
set_option maxRecDepth 20000 in
theorem ggX5_side_X5_knownTo : GoodIn wsX5_side wsX5_knownTo := goodIn_r _ [13, 9, 32, 33, 34, 35, 36, 37, 38, 39, 40, 41, 42, 43, 44, 45, 46, 47, 48, 49, 50, 51, 52, 53] (by decide +kernel) (by decide +kernel)
set_option maxRecDepth 20000 in
theorem gX5_side_X5_knownTo : GoodIn wsX5_side (wsV RX5 66 RX5 yX5_knownTo wsX5_knownTo) := goodIn_app (goodIn_of _ (by decide +kernel)) ggX5_side_X5_knownTo
set_option maxRecDepth 20000 in
theorem ggX5_side_X5_worldsOfSide : GoodIn wsX5_side wsX5_worldsOfSide := goodIn_r _ [17, 18, 9, 19, 20, 21, 3, 22, 23, 24, 25, 32, 33, 34, 35, 36, 37, 38, 39, 40, 41, 42, 43, 44, 45, 46, 47, 48, 49, 50, 51, 52, 53] (by decide +kernel) (by decide +kernel)
set_option maxRecDepth 20000 in
theorem gX5_side_X5_worldsOfSide : GoodIn wsX5_side (wsV RX5 70 RX5 yX5_worldsOfSide wsX5_worldsOfSide) := goodIn_app (goodIn_of _ (by decide +kernel)) ggX5_side_X5_worldsOfSide
set_option maxRecDepth 20000 in
theorem ggX5_side_X5_bitsOf : GoodIn wsX5_side wsX5_bitsOf := goodIn_r _ [28] (by decide +kernel) (by decide +kernel)
set_option maxRecDepth 20000 in
theorem gX5_side_X5_bitsOf : GoodIn wsX5_side (va_wsS RX5 160 yX5_bitsOf wsX5_bitsOf) := goodIn_app (goodIn_of _ (by decide +kernel)) ggX5_side_X5_bitsOf
set_option maxRecDepth 20000 in
theorem ggX5_side_X5_lowest : GoodIn wsX5_side wsX5_lowest := goodIn_r _ [31] (by decide +kernel) (by decide +kernel)
set_option maxRecDepth 20000 in
theorem gX5_side_X5_lowest : GoodIn wsX5_side (va_wsS RX5 164 yX5_lowest wsX5_lowest) := goodIn_app (goodIn_of _ (by decide +kernel)) ggX5_side_X5_lowest
theorem dX5_side_0 : decode cX5_side 0 = .ok (.iload_n 1, 1) := by decide +kernel
theorem dX5_side_1 : decode cX5_side 1 = .ok (.iconst 0, 1) := by decide +kernel
theorem dX5_side_2 : decode cX5_side 2 = .ok (.iconst 1, 1) := by decide +kernel
theorem dX5_side_3 : decode cX5_side 3 = .ok (.invokestatic 48, 3) := by decide +kernel
theorem dX5_side_6 : decode cX5_side 6 = .ok (.ifCond .ne 5, 3) := by decide +kernel
theorem dX5_side_9 : decode cX5_side 9 = .ok (.iconst (-1), 1) := by decide +kernel
theorem dX5_side_10 : decode cX5_side 10 = .ok (.ireturn, 1) := by decide +kernel
theorem dX5_side_11 : decode cX5_side 11 = .ok (.iload_n 2, 1) := by decide +kernel
theorem dX5_side_12 : decode cX5_side 12 = .ok (.tableswitch 62 0 3 #[32, 38, 44, 53], 32) := by decide +kernel
theorem dX5_side_44 : decode cX5_side 44 = .ok (.aload_n 0, 1) := by decide +kernel
theorem dX5_side_45 : decode cX5_side 45 = .ok (.iload_n 1, 1) := by decide +kernel
theorem dX5_side_46 : decode cX5_side 46 = .ok (.invokevirtual 147, 3) := by decide +kernel
theorem dX5_side_49 : decode cX5_side 49 = .ok (.ireturn, 1) := by decide +kernel
theorem dX5_side_50 : decode cX5_side 50 = .ok (.aload_n 0, 1) := by decide +kernel
theorem dX5_side_51 : decode cX5_side 51 = .ok (.iload_n 1, 1) := by decide +kernel
theorem dX5_side_52 : decode cX5_side 52 = .ok (.invokevirtual 66, 3) := by decide +kernel
theorem dX5_side_55 : decode cX5_side 55 = .ok (.ireturn, 1) := by decide +kernel
theorem dX5_side_56 : decode cX5_side 56 = .ok (.aload_n 0, 1) := by decide +kernel
theorem dX5_side_57 : decode cX5_side 57 = .ok (.iload_n 1, 1) := by decide +kernel
theorem dX5_side_58 : decode cX5_side 58 = .ok (.invokevirtual 70, 3) := by decide +kernel
theorem dX5_side_61 : decode cX5_side 61 = .ok (.invokestatic 160, 3) := by decide +kernel
theorem dX5_side_64 : decode cX5_side 64 = .ok (.ireturn, 1) := by decide +kernel
theorem dX5_side_65 : decode cX5_side 65 = .ok (.aload_n 0, 1) := by decide +kernel
theorem dX5_side_66 : decode cX5_side 66 = .ok (.iload_n 1, 1) := by decide +kernel
theorem dX5_side_67 : decode cX5_side 67 = .ok (.invokevirtual 70, 3) := by decide +kernel
theorem dX5_side_70 : decode cX5_side 70 = .ok (.invokestatic 164, 3) := by decide +kernel
theorem dX5_side_73 : decode cX5_side 73 = .ok (.ireturn, 1) := by decide +kernel
theorem dX5_side_74 : decode cX5_side 74 = .ok (.bipush (-2), 2) := by decide +kernel
theorem dX5_side_76 : decode cX5_side 76 = .ok (.ireturn, 1) := by decide +kernel
set_option maxRecDepth 20000 in
theorem ggX5_step_X5_prove : GoodIn wsX5_step wsX5_prove := goodIn_r _ [13, 14, 2, 15, 1, 16, 3, 4, 8, 5, 6, 17, 18, 19, 12, 20, 7, 21, 22, 23, 27, 28, 29, 30, 31, 32, 33, 34, 35, 36, 37, 38, 39, 40, 41, 42, 43, 44, 45, 46, 47, 48] (by decide +kernel) (by decide +kernel)
set_option maxRecDepth 20000 in
theorem gX5_step_X5_prove : GoodIn wsX5_step (wsV RX5 150 RX5 yX5_prove wsX5_prove) := goodIn_app (goodIn_of _ (by decide +kernel)) ggX5_step_X5_prove
set_option maxRecDepth 20000 in
theorem ggX5_step_X5_in : GoodIn wsX5_step wsX5_in := goodIn_r _ [26] (by decide +kernel) (by decide +kernel)
set_option maxRecDepth 20000 in
theorem gX5_step_X5_in : GoodIn wsX5_step (va_wsS RX5 48 yX5_in wsX5_in) := goodIn_app (goodIn_of _ (by decide +kernel)) ggX5_step_X5_in
theorem dX5_step_0 : decode cX5_step 0 = .ok (.aload_n 0, 1) := by decide +kernel
theorem dX5_step_1 : decode cX5_step 1 = .ok (.invokevirtual 150, 3) := by decide +kernel
theorem dX5_step_4 : decode cX5_step 4 = .ok (.aload_n 0, 1) := by decide +kernel
theorem dX5_step_5 : decode cX5_step 5 = .ok (.getfield 83, 3) := by decide +kernel
theorem dX5_step_8 : decode cX5_step 8 = .ok (.ifCond .ne 6, 3) := by decide +kernel
theorem dX5_step_11 : decode cX5_step 11 = .ok (.bipush (-4), 2) := by decide +kernel
theorem dX5_step_13 : decode cX5_step 13 = .ok (.ireturn, 1) := by decide +kernel
theorem dX5_step_14 : decode cX5_step 14 = .ok (.iload_n 1, 1) := by decide +kernel
theorem dX5_step_15 : decode cX5_step 15 = .ok (.iconst 0, 1) := by decide +kernel
theorem dX5_step_16 : decode cX5_step 16 = .ok (.aload_n 0, 1) := by decide +kernel
theorem dX5_step_17 : decode cX5_step 17 = .ok (.getfield 77, 3) := by decide +kernel
theorem dX5_step_20 : decode cX5_step 20 = .ok (.iconst 1, 1) := by decide +kernel
theorem dX5_step_21 : decode cX5_step 21 = .ok (.isub, 1) := by decide +kernel
theorem dX5_step_22 : decode cX5_step 22 = .ok (.invokestatic 48, 3) := by decide +kernel
theorem dX5_step_25 : decode cX5_step 25 = .ok (.ifCond .ne 5, 3) := by decide +kernel
theorem dX5_step_28 : decode cX5_step 28 = .ok (.iconst (-1), 1) := by decide +kernel
theorem dX5_step_29 : decode cX5_step 29 = .ok (.ireturn, 1) := by decide +kernel
theorem dX5_step_30 : decode cX5_step 30 = .ok (.iload_n 2, 1) := by decide +kernel
theorem dX5_step_31 : decode cX5_step 31 = .ok (.tableswitch 87 0 5 #[37, 44, 51, 58, 65, 72], 37) := by decide +kernel
theorem dX5_step_68 : decode cX5_step 68 = .ok (.aload_n 0, 1) := by decide +kernel
theorem dX5_step_69 : decode cX5_step 69 = .ok (.getfield 22, 3) := by decide +kernel
theorem dX5_step_72 : decode cX5_step 72 = .ok (.iload_n 1, 1) := by decide +kernel
theorem dX5_step_73 : decode cX5_step 73 = .ok (.iaload, 1) := by decide +kernel
theorem dX5_step_74 : decode cX5_step 74 = .ok (.ireturn, 1) := by decide +kernel
theorem dX5_step_75 : decode cX5_step 75 = .ok (.aload_n 0, 1) := by decide +kernel
theorem dX5_step_76 : decode cX5_step 76 = .ok (.getfield 25, 3) := by decide +kernel
theorem dX5_step_79 : decode cX5_step 79 = .ok (.iload_n 1, 1) := by decide +kernel
theorem dX5_step_80 : decode cX5_step 80 = .ok (.iaload, 1) := by decide +kernel
theorem dX5_step_81 : decode cX5_step 81 = .ok (.ireturn, 1) := by decide +kernel
theorem dX5_step_82 : decode cX5_step 82 = .ok (.aload_n 0, 1) := by decide +kernel
theorem dX5_step_83 : decode cX5_step 83 = .ok (.getfield 28, 3) := by decide +kernel
theorem dX5_step_86 : decode cX5_step 86 = .ok (.iload_n 1, 1) := by decide +kernel
theorem dX5_step_87 : decode cX5_step 87 = .ok (.iaload, 1) := by decide +kernel
theorem dX5_step_88 : decode cX5_step 88 = .ok (.ireturn, 1) := by decide +kernel
theorem dX5_step_89 : decode cX5_step 89 = .ok (.aload_n 0, 1) := by decide +kernel
theorem dX5_step_90 : decode cX5_step 90 = .ok (.getfield 31, 3) := by decide +kernel
theorem dX5_step_93 : decode cX5_step 93 = .ok (.iload_n 1, 1) := by decide +kernel
theorem dX5_step_94 : decode cX5_step 94 = .ok (.iaload, 1) := by decide +kernel
theorem dX5_step_95 : decode cX5_step 95 = .ok (.ireturn, 1) := by decide +kernel
theorem dX5_step_96 : decode cX5_step 96 = .ok (.aload_n 0, 1) := by decide +kernel
theorem dX5_step_97 : decode cX5_step 97 = .ok (.getfield 34, 3) := by decide +kernel
theorem dX5_step_100 : decode cX5_step 100 = .ok (.iload_n 1, 1) := by decide +kernel
theorem dX5_step_101 : decode cX5_step 101 = .ok (.iaload, 1) := by decide +kernel
theorem dX5_step_102 : decode cX5_step 102 = .ok (.ireturn, 1) := by decide +kernel
theorem dX5_step_103 : decode cX5_step 103 = .ok (.aload_n 0, 1) := by decide +kernel
theorem dX5_step_104 : decode cX5_step 104 = .ok (.getfield 37, 3) := by decide +kernel
theorem dX5_step_107 : decode cX5_step 107 = .ok (.iload_n 1, 1) := by decide +kernel
theorem dX5_step_108 : decode cX5_step 108 = .ok (.baload, 1) := by decide +kernel
theorem dX5_step_109 : decode cX5_step 109 = .ok (.ifCond .eq 7, 3) := by decide +kernel
theorem dX5_step_112 : decode cX5_step 112 = .ok (.iconst 1, 1) := by decide +kernel
theorem dX5_step_113 : decode cX5_step 113 = .ok (.goto 4, 3) := by decide +kernel
theorem dX5_step_116 : decode cX5_step 116 = .ok (.iconst 0, 1) := by decide +kernel
theorem dX5_step_117 : decode cX5_step 117 = .ok (.ireturn, 1) := by decide +kernel
theorem dX5_step_118 : decode cX5_step 118 = .ok (.bipush (-2), 2) := by decide +kernel
theorem dX5_step_120 : decode cX5_step 120 = .ok (.ireturn, 1) := by decide +kernel
set_option maxRecDepth 20000 in
theorem ggX5_partial_X5_prove : GoodIn wsX5_partial wsX5_prove := goodIn_r _ [7, 8, 1, 9, 10, 11, 12, 13, 14, 15, 16, 17, 18, 19, 6, 20, 21, 22, 23, 24, 47, 48, 49, 50, 51, 52, 53, 54, 55, 56, 57, 58, 59, 60, 61, 62, 63, 64, 65, 66, 67, 68] (by decide +kernel) (by decide +kernel)
set_option maxRecDepth 20000 in
theorem gX5_partial_X5_prove : GoodIn wsX5_partial (wsV RX5 150 RX5 yX5_prove wsX5_prove) := goodIn_app (goodIn_of _ (by decide +kernel)) ggX5_partial_X5_prove
set_option maxRecDepth 20000 in
theorem ggX5_partial_X5_isProved : GoodIn wsX5_partial wsX5_isProved := goodIn_r _ [28, 10, 9, 47, 48, 49, 50, 51, 52, 53, 54, 55, 56, 57, 58, 59, 60, 61, 62, 63, 64, 65, 66, 67, 68] (by decide +kernel) (by decide +kernel)
set_option maxRecDepth 20000 in
theorem gX5_partial_X5_isProved : GoodIn wsX5_partial (wsV RX5 153 RX5 yX5_isProved wsX5_isProved) := goodIn_app (goodIn_of _ (by decide +kernel)) ggX5_partial_X5_isProved
set_option maxRecDepth 20000 in
theorem ggX5_partial_X5_in : GoodIn wsX5_partial wsX5_in := goodIn_r _ [31] (by decide +kernel) (by decide +kernel)
set_option maxRecDepth 20000 in
theorem gX5_partial_X5_in : GoodIn wsX5_partial (va_wsS RX5 48 yX5_in wsX5_in) := goodIn_app (goodIn_of _ (by decide +kernel)) ggX5_partial_X5_in
set_option maxRecDepth 20000 in
theorem ggX5_partial_X5_claim : GoodIn wsX5_partial wsX5_claim := goodIn_r _ [35, 1, 11, 2, 36, 12, 13, 21, 15, 16, 37, 38, 39, 6, 40, 41, 42, 43, 44, 45, 46, 47, 48, 49, 50, 51, 52, 53, 54, 55, 56, 57, 58, 59, 60, 61, 62, 63, 64, 65, 66, 67, 68] (by decide +kernel) (by decide +kernel)
set_option maxRecDepth 20000 in
theorem gX5_partial_X5_claim : GoodIn wsX5_partial (wsV RX5 97 RX5 yX5_claim wsX5_claim) := goodIn_app (goodIn_of _ (by decide +kernel)) ggX5_partial_X5_claim
theorem dX5_partial_0 : decode cX5_partial 0 = .ok (.aload_n 0, 1) := by decide +kernel
theorem dX5_partial_1 : decode cX5_partial 1 = .ok (.invokevirtual 150, 3) := by decide +kernel
theorem dX5_partial_4 : decode cX5_partial 4 = .ok (.aload_n 0, 1) := by decide +kernel
theorem dX5_partial_5 : decode cX5_partial 5 = .ok (.invokevirtual 153, 3) := by decide +kernel
theorem dX5_partial_8 : decode cX5_partial 8 = .ok (.ifCond .ne 6, 3) := by decide +kernel
theorem dX5_partial_11 : decode cX5_partial 11 = .ok (.bipush (-4), 2) := by decide +kernel
theorem dX5_partial_13 : decode cX5_partial 13 = .ok (.ireturn, 1) := by decide +kernel
theorem dX5_partial_14 : decode cX5_partial 14 = .ok (.iload_n 1, 1) := by decide +kernel
theorem dX5_partial_15 : decode cX5_partial 15 = .ok (.iconst 0, 1) := by decide +kernel
theorem dX5_partial_16 : decode cX5_partial 16 = .ok (.aload_n 0, 1) := by decide +kernel
theorem dX5_partial_17 : decode cX5_partial 17 = .ok (.getfield 77, 3) := by decide +kernel
theorem dX5_partial_20 : decode cX5_partial 20 = .ok (.iconst 1, 1) := by decide +kernel
theorem dX5_partial_21 : decode cX5_partial 21 = .ok (.isub, 1) := by decide +kernel
theorem dX5_partial_22 : decode cX5_partial 22 = .ok (.invokestatic 48, 3) := by decide +kernel
theorem dX5_partial_25 : decode cX5_partial 25 = .ok (.ifCond .ne 5, 3) := by decide +kernel
theorem dX5_partial_28 : decode cX5_partial 28 = .ok (.iconst (-1), 1) := by decide +kernel
theorem dX5_partial_29 : decode cX5_partial 29 = .ok (.ireturn, 1) := by decide +kernel
theorem dX5_partial_30 : decode cX5_partial 30 = .ok (.iload_n 2, 1) := by decide +kernel
theorem dX5_partial_31 : decode cX5_partial 31 = .ok (.iconst 0, 1) := by decide +kernel
theorem dX5_partial_32 : decode cX5_partial 32 = .ok (.iconst 1, 1) := by decide +kernel
theorem dX5_partial_33 : decode cX5_partial 33 = .ok (.invokestatic 48, 3) := by decide +kernel
theorem dX5_partial_36 : decode cX5_partial 36 = .ok (.ifCond .eq 13, 3) := by decide +kernel
theorem dX5_partial_39 : decode cX5_partial 39 = .ok (.iload_n 3, 1) := by decide +kernel
theorem dX5_partial_40 : decode cX5_partial 40 = .ok (.iconst 0, 1) := by decide +kernel
theorem dX5_partial_41 : decode cX5_partial 41 = .ok (.bipush 63, 2) := by decide +kernel
theorem dX5_partial_43 : decode cX5_partial 43 = .ok (.invokestatic 48, 3) := by decide +kernel
theorem dX5_partial_46 : decode cX5_partial 46 = .ok (.ifCond .ne 6, 3) := by decide +kernel
theorem dX5_partial_49 : decode cX5_partial 49 = .ok (.bipush (-2), 2) := by decide +kernel
theorem dX5_partial_51 : decode cX5_partial 51 = .ok (.ireturn, 1) := by decide +kernel
theorem dX5_partial_52 : decode cX5_partial 52 = .ok (.aload_n 0, 1) := by decide +kernel
theorem dX5_partial_53 : decode cX5_partial 53 = .ok (.iload_n 2, 1) := by decide +kernel
theorem dX5_partial_54 : decode cX5_partial 54 = .ok (.invokevirtual 97, 3) := by decide +kernel
theorem dX5_partial_57 : decode cX5_partial 57 = .ok (.aload_n 0, 1) := by decide +kernel
theorem dX5_partial_58 : decode cX5_partial 58 = .ok (.getfield 44, 3) := by decide +kernel
theorem dX5_partial_61 : decode cX5_partial 61 = .ok (.iload_n 1, 1) := by decide +kernel
theorem dX5_partial_62 : decode cX5_partial 62 = .ok (.laload, 1) := by decide +kernel
theorem dX5_partial_63 : decode cX5_partial 63 = .ok (.iload_n 3, 1) := by decide +kernel
theorem dX5_partial_64 : decode cX5_partial 64 = .ok (.lushr, 1) := by decide +kernel
theorem dX5_partial_65 : decode cX5_partial 65 = .ok (.lconst 1, 1) := by decide +kernel
theorem dX5_partial_66 : decode cX5_partial 66 = .ok (.land, 1) := by decide +kernel
theorem dX5_partial_67 : decode cX5_partial 67 = .ok (.l2i, 1) := by decide +kernel
theorem dX5_partial_68 : decode cX5_partial 68 = .ok (.ireturn, 1) := by decide +kernel
theorem dX5_half_0 : decode cX5_half 0 = .ok (.iload_n 2, 1) := by decide +kernel
theorem dX5_half_1 : decode cX5_half 1 = .ok (.ifCond .ne 7, 3) := by decide +kernel
theorem dX5_half_4 : decode cX5_half 4 = .ok (.lload_n 0, 1) := by decide +kernel
theorem dX5_half_5 : decode cX5_half 5 = .ok (.goto 7, 3) := by decide +kernel
theorem dX5_half_8 : decode cX5_half 8 = .ok (.lload_n 0, 1) := by decide +kernel
theorem dX5_half_9 : decode cX5_half 9 = .ok (.bipush 32, 2) := by decide +kernel
theorem dX5_half_11 : decode cX5_half 11 = .ok (.lushr, 1) := by decide +kernel
theorem dX5_half_12 : decode cX5_half 12 = .ok (.l2i, 1) := by decide +kernel
theorem dX5_half_13 : decode cX5_half 13 = .ok (.ireturn, 1) := by decide +kernel
set_option maxRecDepth 20000 in
theorem ggX5_middle_X5_prove : GoodIn wsX5_middle wsX5_prove := goodIn_r _ [5, 6, 7, 8, 9, 10, 11, 12, 13, 14, 15, 16, 17, 18, 4, 19, 20, 21, 22, 23, 54, 55, 56, 57, 58, 59, 60, 61, 62, 63, 64, 65, 66, 67, 68, 69, 70, 71, 72, 73, 74, 75] (by decide +kernel) (by decide +kernel)
set_option maxRecDepth 20000 in
theorem gX5_middle_X5_prove : GoodIn wsX5_middle (wsV RX5 150 RX5 yX5_prove wsX5_prove) := goodIn_app (goodIn_of _ (by decide +kernel)) ggX5_middle_X5_prove
set_option maxRecDepth 20000 in
theorem ggX5_middle_X5_in : GoodIn wsX5_middle wsX5_in := goodIn_r _ [26] (by decide +kernel) (by decide +kernel)
set_option maxRecDepth 20000 in
theorem gX5_middle_X5_in : GoodIn wsX5_middle (va_wsS RX5 48 yX5_in wsX5_in) := goodIn_app (goodIn_of _ (by decide +kernel)) ggX5_middle_X5_in
set_option maxRecDepth 20000 in
theorem ggX5_middle_X5_isProved : GoodIn wsX5_middle wsX5_isProved := goodIn_r _ [30, 9, 8, 54, 55, 56, 57, 58, 59, 60, 61, 62, 63, 64, 65, 66, 67, 68, 69, 70, 71, 72, 73, 74, 75] (by decide +kernel) (by decide +kernel)
set_option maxRecDepth 20000 in
theorem gX5_middle_X5_isProved : GoodIn wsX5_middle (wsV RX5 153 RX5 yX5_isProved wsX5_isProved) := goodIn_app (goodIn_of _ (by decide +kernel)) ggX5_middle_X5_isProved
set_option maxRecDepth 20000 in
theorem ggX5_middle_X5_middleOf : GoodIn wsX5_middle wsX5_middleOf := goodIn_r _ [34, 35, 8, 36, 37, 38, 4, 39, 7, 10, 40, 11, 12, 20, 14, 15, 41, 42, 43, 44, 45, 46, 47, 48, 49, 50, 54, 55, 56, 57, 58, 59, 60, 61, 62, 63, 64, 65, 66, 67, 68, 69, 70, 71, 72, 73, 74, 75] (by decide +kernel) (by decide +kernel)
set_option maxRecDepth 20000 in
theorem gX5_middle_X5_middleOf : GoodIn wsX5_middle (wsV RX5 167 RX5 yX5_middleOf wsX5_middleOf) := goodIn_app (goodIn_of _ (by decide +kernel)) ggX5_middle_X5_middleOf
set_option maxRecDepth 20000 in
theorem ggX5_middle_X5_half : GoodIn wsX5_middle wsX5_half := goodIn_r _ [53] (by decide +kernel) (by decide +kernel)
set_option maxRecDepth 20000 in
theorem gX5_middle_X5_half : GoodIn wsX5_middle (va_wsS RX5 170 yX5_half wsX5_half) := goodIn_app (goodIn_of _ (by decide +kernel)) ggX5_middle_X5_half
theorem dX5_middle_0 : decode cX5_middle 0 = .ok (.aload_n 0, 1) := by decide +kernel
theorem dX5_middle_1 : decode cX5_middle 1 = .ok (.invokevirtual 150, 3) := by decide +kernel
theorem dX5_middle_4 : decode cX5_middle 4 = .ok (.iload_n 1, 1) := by decide +kernel
theorem dX5_middle_5 : decode cX5_middle 5 = .ok (.iconst 0, 1) := by decide +kernel
theorem dX5_middle_6 : decode cX5_middle 6 = .ok (.iconst 1, 1) := by decide +kernel
theorem dX5_middle_7 : decode cX5_middle 7 = .ok (.invokestatic 48, 3) := by decide +kernel
theorem dX5_middle_10 : decode cX5_middle 10 = .ok (.ifCond .eq 31, 3) := by decide +kernel
theorem dX5_middle_13 : decode cX5_middle 13 = .ok (.iload_n 2, 1) := by decide +kernel
theorem dX5_middle_14 : decode cX5_middle 14 = .ok (.iconst 0, 1) := by decide +kernel
theorem dX5_middle_15 : decode cX5_middle 15 = .ok (.iconst 1, 1) := by decide +kernel
theorem dX5_middle_16 : decode cX5_middle 16 = .ok (.invokestatic 48, 3) := by decide +kernel
theorem dX5_middle_19 : decode cX5_middle 19 = .ok (.ifCond .eq 22, 3) := by decide +kernel
theorem dX5_middle_22 : decode cX5_middle 22 = .ok (.aload_n 0, 1) := by decide +kernel
theorem dX5_middle_23 : decode cX5_middle 23 = .ok (.invokevirtual 153, 3) := by decide +kernel
theorem dX5_middle_26 : decode cX5_middle 26 = .ok (.ifCond .eq 15, 3) := by decide +kernel
theorem dX5_middle_29 : decode cX5_middle 29 = .ok (.aload_n 0, 1) := by decide +kernel
theorem dX5_middle_30 : decode cX5_middle 30 = .ok (.iload_n 1, 1) := by decide +kernel
theorem dX5_middle_31 : decode cX5_middle 31 = .ok (.invokevirtual 167, 3) := by decide +kernel
theorem dX5_middle_34 : decode cX5_middle 34 = .ok (.iload_n 2, 1) := by decide +kernel
theorem dX5_middle_35 : decode cX5_middle 35 = .ok (.invokestatic 170, 3) := by decide +kernel
theorem dX5_middle_38 : decode cX5_middle 38 = .ok (.goto 4, 3) := by decide +kernel
theorem dX5_middle_41 : decode cX5_middle 41 = .ok (.iconst 0, 1) := by decide +kernel
theorem dX5_middle_42 : decode cX5_middle 42 = .ok (.ireturn, 1) := by decide +kernel
set_option maxRecDepth 20000 in
theorem ggX5_outermost_X5_in : GoodIn wsX5_outermost wsX5_in := goodIn_r _ [5] (by decide +kernel) (by decide +kernel)
set_option maxRecDepth 20000 in
theorem gX5_outermost_X5_in : GoodIn wsX5_outermost (va_wsS RX5 48 yX5_in wsX5_in) := goodIn_app (goodIn_of _ (by decide +kernel)) ggX5_outermost_X5_in
set_option maxRecDepth 20000 in
theorem ggX5_outermost_X5_clash : GoodIn wsX5_outermost wsX5_clash := goodIn_r _ [9, 10, 11, 12, 4, 13, 1, 14, 15, 16, 17, 18, 19, 20, 21, 37, 38, 39, 40, 41, 42, 43, 44, 45, 46, 47, 48, 49, 50, 51, 52, 53, 54, 55, 56, 57, 58] (by decide +kernel) (by decide +kernel)
set_option maxRecDepth 20000 in
theorem gX5_outermost_X5_clash : GoodIn wsX5_outermost (wsV RX5 174 RX5 yX5_clash wsX5_clash) := goodIn_app (goodIn_of _ (by decide +kernel)) ggX5_outermost_X5_clash
set_option maxRecDepth 20000 in
theorem ggX5_outermost_X5_worldsOfSide : GoodIn wsX5_outermost wsX5_worldsOfSide := goodIn_r _ [13, 1, 14, 15, 16, 17, 4, 18, 19, 20, 21, 37, 38, 39, 40, 41, 42, 43, 44, 45, 46, 47, 48, 49, 50, 51, 52, 53, 54, 55, 56, 57, 58] (by decide +kernel) (by decide +kernel)
set_option maxRecDepth 20000 in
theorem gX5_outermost_X5_worldsOfSide : GoodIn wsX5_outermost (wsV RX5 70 RX5 yX5_worldsOfSide wsX5_worldsOfSide) := goodIn_app (goodIn_of _ (by decide +kernel)) ggX5_outermost_X5_worldsOfSide
set_option maxRecDepth 20000 in
theorem ggX5_outermost_X5_spread : GoodIn wsX5_outermost wsX5_spread := goodIn_r _ [25, 26, 27, 28, 4, 29, 30, 31, 32, 33, 14, 37, 38, 39, 40, 41, 42, 43, 44, 45, 46, 47, 48, 49, 50, 51, 52, 53, 54, 55, 56, 57, 58] (by decide +kernel) (by decide +kernel)
set_option maxRecDepth 20000 in
theorem gX5_outermost_X5_spread : GoodIn wsX5_outermost (wsV RX5 177 RX5 yX5_spread wsX5_spread) := goodIn_app (goodIn_of _ (by decide +kernel)) ggX5_outermost_X5_spread
set_option maxRecDepth 20000 in
theorem ggX5_outermost_X5_half : GoodIn wsX5_outermost wsX5_half := goodIn_r _ [36] (by decide +kernel) (by decide +kernel)
set_option maxRecDepth 20000 in
theorem gX5_outermost_X5_half : GoodIn wsX5_outermost (va_wsS RX5 170 yX5_half wsX5_half) := goodIn_app (goodIn_of _ (by decide +kernel)) ggX5_outermost_X5_half
theorem dX5_outermost_0 : decode cX5_outermost 0 = .ok (.iload_n 2, 1) := by decide +kernel
theorem dX5_outermost_1 : decode cX5_outermost 1 = .ok (.iconst 0, 1) := by decide +kernel
theorem dX5_outermost_2 : decode cX5_outermost 2 = .ok (.iconst 1, 1) := by decide +kernel
theorem dX5_outermost_3 : decode cX5_outermost 3 = .ok (.invokestatic 48, 3) := by decide +kernel
theorem dX5_outermost_6 : decode cX5_outermost 6 = .ok (.ifCond .eq 10, 3) := by decide +kernel
theorem dX5_outermost_9 : decode cX5_outermost 9 = .ok (.aload_n 0, 1) := by decide +kernel
theorem dX5_outermost_10 : decode cX5_outermost 10 = .ok (.invokevirtual 174, 3) := by decide +kernel
theorem dX5_outermost_13 : decode cX5_outermost 13 = .ok (.ifCond .ne 5, 3) := by decide +kernel
theorem dX5_outermost_16 : decode cX5_outermost 16 = .ok (.iconst 0, 1) := by decide +kernel
theorem dX5_outermost_17 : decode cX5_outermost 17 = .ok (.ireturn, 1) := by decide +kernel
theorem dX5_outermost_18 : decode cX5_outermost 18 = .ok (.iload_n 1, 1) := by decide +kernel
theorem dX5_outermost_19 : decode cX5_outermost 19 = .ok (.ifCond .eq 19, 3) := by decide +kernel
theorem dX5_outermost_22 : decode cX5_outermost 22 = .ok (.aload_n 0, 1) := by decide +kernel
theorem dX5_outermost_23 : decode cX5_outermost 23 = .ok (.aload_n 0, 1) := by decide +kernel
theorem dX5_outermost_24 : decode cX5_outermost 24 = .ok (.iconst 1, 1) := by decide +kernel
theorem dX5_outermost_25 : decode cX5_outermost 25 = .ok (.invokevirtual 70, 3) := by decide +kernel
theorem dX5_outermost_28 : decode cX5_outermost 28 = .ok (.invokevirtual 177, 3) := by decide +kernel
theorem dX5_outermost_31 : decode cX5_outermost 31 = .ok (.ldc2_w 60, 3) := by decide +kernel
theorem dX5_outermost_34 : decode cX5_outermost 34 = .ok (.lxor, 1) := by decide +kernel
theorem dX5_outermost_35 : decode cX5_outermost 35 = .ok (.goto 12, 3) := by decide +kernel
theorem dX5_outermost_38 : decode cX5_outermost 38 = .ok (.aload_n 0, 1) := by decide +kernel
theorem dX5_outermost_39 : decode cX5_outermost 39 = .ok (.aload_n 0, 1) := by decide +kernel
theorem dX5_outermost_40 : decode cX5_outermost 40 = .ok (.iconst 0, 1) := by decide +kernel
theorem dX5_outermost_41 : decode cX5_outermost 41 = .ok (.invokevirtual 70, 3) := by decide +kernel
theorem dX5_outermost_44 : decode cX5_outermost 44 = .ok (.invokevirtual 177, 3) := by decide +kernel
theorem dX5_outermost_47 : decode cX5_outermost 47 = .ok (.iload_n 2, 1) := by decide +kernel
theorem dX5_outermost_48 : decode cX5_outermost 48 = .ok (.invokestatic 170, 3) := by decide +kernel
theorem dX5_outermost_51 : decode cX5_outermost 51 = .ok (.ireturn, 1) := by decide +kernel
set_option maxRecDepth 20000 in
theorem ggX5_test_X5_worldsOfSide : GoodIn wsX5_test wsX5_worldsOfSide := goodIn_r _ [7, 2, 8, 9, 10, 11, 6, 12, 13, 14, 15, 28, 29, 30, 31, 32, 33, 34, 35, 36, 37, 38, 39, 40, 41, 42, 43, 44, 45, 46, 47, 48, 49] (by decide +kernel) (by decide +kernel)
set_option maxRecDepth 20000 in
theorem gX5_test_X5_worldsOfSide : GoodIn wsX5_test (wsV RX5 70 RX5 yX5_worldsOfSide wsX5_worldsOfSide) := goodIn_app (goodIn_of _ (by decide +kernel)) ggX5_test_X5_worldsOfSide
set_option maxRecDepth 20000 in
theorem ggX5_test_X5_spread : GoodIn wsX5_test wsX5_spread := goodIn_r _ [19, 20, 21, 22, 6, 23, 24, 25, 26, 27, 8, 28, 29, 30, 31, 32, 33, 34, 35, 36, 37, 38, 39, 40, 41, 42, 43, 44, 45, 46, 47, 48, 49] (by decide +kernel) (by decide +kernel)
set_option maxRecDepth 20000 in
theorem gX5_test_X5_spread : GoodIn wsX5_test (wsV RX5 177 RX5 yX5_spread wsX5_spread) := goodIn_app (goodIn_of _ (by decide +kernel)) ggX5_test_X5_spread
theorem dX5_test_0 : decode cX5_test 0 = .ok (.iload_n 2, 1) := by decide +kernel
theorem dX5_test_1 : decode cX5_test 1 = .ok (.i2l, 1) := by decide +kernel
theorem dX5_test_2 : decode cX5_test 2 = .ok (.bipush 32, 2) := by decide +kernel
theorem dX5_test_4 : decode cX5_test 4 = .ok (.lshl, 1) := by decide +kernel
theorem dX5_test_5 : decode cX5_test 5 = .ok (.iload_n 1, 1) := by decide +kernel
theorem dX5_test_6 : decode cX5_test 6 = .ok (.i2l, 1) := by decide +kernel
theorem dX5_test_7 : decode cX5_test 7 = .ok (.ldc2_w 181, 3) := by decide +kernel
theorem dX5_test_10 : decode cX5_test 10 = .ok (.land, 1) := by decide +kernel
theorem dX5_test_11 : decode cX5_test 11 = .ok (.lor, 1) := by decide +kernel
theorem dX5_test_12 : decode cX5_test 12 = .ok (.lstore_n 3, 1) := by decide +kernel
theorem dX5_test_13 : decode cX5_test 13 = .ok (.aload_n 0, 1) := by decide +kernel
theorem dX5_test_14 : decode cX5_test 14 = .ok (.iconst 0, 1) := by decide +kernel
theorem dX5_test_15 : decode cX5_test 15 = .ok (.invokevirtual 70, 3) := by decide +kernel
theorem dX5_test_18 : decode cX5_test 18 = .ok (.lload_n 3, 1) := by decide +kernel
theorem dX5_test_19 : decode cX5_test 19 = .ok (.ldc2_w 60, 3) := by decide +kernel
theorem dX5_test_22 : decode cX5_test 22 = .ok (.lxor, 1) := by decide +kernel
theorem dX5_test_23 : decode cX5_test 23 = .ok (.land, 1) := by decide +kernel
theorem dX5_test_24 : decode cX5_test 24 = .ok (.lconst 0, 1) := by decide +kernel
theorem dX5_test_25 : decode cX5_test 25 = .ok (.lcmp, 1) := by decide +kernel
theorem dX5_test_26 : decode cX5_test 26 = .ok (.ifCond .eq 5, 3) := by decide +kernel
theorem dX5_test_29 : decode cX5_test 29 = .ok (.iconst 1, 1) := by decide +kernel
theorem dX5_test_30 : decode cX5_test 30 = .ok (.ireturn, 1) := by decide +kernel
theorem dX5_test_31 : decode cX5_test 31 = .ok (.aload_n 0, 1) := by decide +kernel
theorem dX5_test_32 : decode cX5_test 32 = .ok (.iconst 1, 1) := by decide +kernel
theorem dX5_test_33 : decode cX5_test 33 = .ok (.invokevirtual 70, 3) := by decide +kernel
theorem dX5_test_36 : decode cX5_test 36 = .ok (.lload_n 3, 1) := by decide +kernel
theorem dX5_test_37 : decode cX5_test 37 = .ok (.land, 1) := by decide +kernel
theorem dX5_test_38 : decode cX5_test 38 = .ok (.lconst 0, 1) := by decide +kernel
theorem dX5_test_39 : decode cX5_test 39 = .ok (.lcmp, 1) := by decide +kernel
theorem dX5_test_40 : decode cX5_test 40 = .ok (.ifCond .eq 5, 3) := by decide +kernel
theorem dX5_test_43 : decode cX5_test 43 = .ok (.iconst 2, 1) := by decide +kernel
theorem dX5_test_44 : decode cX5_test 44 = .ok (.ireturn, 1) := by decide +kernel
theorem dX5_test_45 : decode cX5_test 45 = .ok (.aload_n 0, 1) := by decide +kernel
theorem dX5_test_46 : decode cX5_test 46 = .ok (.lload_n 3, 1) := by decide +kernel
theorem dX5_test_47 : decode cX5_test 47 = .ok (.invokevirtual 177, 3) := by decide +kernel
theorem dX5_test_50 : decode cX5_test 50 = .ok (.lload_n 3, 1) := by decide +kernel
theorem dX5_test_51 : decode cX5_test 51 = .ok (.lcmp, 1) := by decide +kernel
theorem dX5_test_52 : decode cX5_test 52 = .ok (.ifCond .ne 7, 3) := by decide +kernel
theorem dX5_test_55 : decode cX5_test 55 = .ok (.iconst 0, 1) := by decide +kernel
theorem dX5_test_56 : decode cX5_test 56 = .ok (.goto 4, 3) := by decide +kernel
theorem dX5_test_59 : decode cX5_test 59 = .ok (.iconst 3, 1) := by decide +kernel
theorem dX5_test_60 : decode cX5_test 60 = .ok (.ireturn, 1) := by decide +kernel
set_option maxRecDepth 20000 in
theorem ggX5_compare_X5_prove : GoodIn wsX5_compare wsX5_prove := goodIn_r _ [6, 7, 8, 9, 10, 11, 12, 13, 14, 15, 16, 17, 18, 19, 5, 20, 21, 22, 23, 24, 48, 49, 50, 51, 52, 53, 54, 55, 56, 57, 58, 59, 60, 61, 62, 63, 64, 65, 66, 67, 68, 69] (by decide +kernel) (by decide +kernel)
set_option maxRecDepth 20000 in
theorem gX5_compare_X5_prove : GoodIn wsX5_compare (wsV RX5 150 RX5 yX5_prove wsX5_prove) := goodIn_app (goodIn_of _ (by decide +kernel)) ggX5_compare_X5_prove
set_option maxRecDepth 20000 in
theorem ggX5_compare_X5_isProved : GoodIn wsX5_compare wsX5_isProved := goodIn_r _ [28, 10, 9, 48, 49, 50, 51, 52, 53, 54, 55, 56, 57, 58, 59, 60, 61, 62, 63, 64, 65, 66, 67, 68, 69] (by decide +kernel) (by decide +kernel)
set_option maxRecDepth 20000 in
theorem gX5_compare_X5_isProved : GoodIn wsX5_compare (wsV RX5 153 RX5 yX5_isProved wsX5_isProved) := goodIn_app (goodIn_of _ (by decide +kernel)) ggX5_compare_X5_isProved
set_option maxRecDepth 20000 in
theorem ggX5_compare_X5_middleOf : GoodIn wsX5_compare wsX5_middleOf := goodIn_r _ [32, 33, 9, 34, 35, 36, 5, 37, 8, 11, 1, 12, 13, 21, 15, 16, 38, 39, 40, 41, 42, 43, 44, 45, 46, 47, 48, 49, 50, 51, 52, 53, 54, 55, 56, 57, 58, 59, 60, 61, 62, 63, 64, 65, 66, 67, 68, 69] (by decide +kernel) (by decide +kernel)
set_option maxRecDepth 20000 in
theorem gX5_compare_X5_middleOf : GoodIn wsX5_compare (wsV RX5 167 RX5 yX5_middleOf wsX5_middleOf) := goodIn_app (goodIn_of _ (by decide +kernel)) ggX5_compare_X5_middleOf
theorem dX5_compare_0 : decode cX5_compare 0 = .ok (.aload_n 0, 1) := by decide +kernel
theorem dX5_compare_1 : decode cX5_compare 1 = .ok (.invokevirtual 150, 3) := by decide +kernel
theorem dX5_compare_4 : decode cX5_compare 4 = .ok (.aload_n 0, 1) := by decide +kernel
theorem dX5_compare_5 : decode cX5_compare 5 = .ok (.invokevirtual 153, 3) := by decide +kernel
theorem dX5_compare_8 : decode cX5_compare 8 = .ok (.ifCond .ne 6, 3) := by decide +kernel
theorem dX5_compare_11 : decode cX5_compare 11 = .ok (.bipush (-4), 2) := by decide +kernel
theorem dX5_compare_13 : decode cX5_compare 13 = .ok (.ireturn, 1) := by decide +kernel
theorem dX5_compare_14 : decode cX5_compare 14 = .ok (.aload_n 0, 1) := by decide +kernel
theorem dX5_compare_15 : decode cX5_compare 15 = .ok (.iconst 0, 1) := by decide +kernel
theorem dX5_compare_16 : decode cX5_compare 16 = .ok (.invokevirtual 167, 3) := by decide +kernel
theorem dX5_compare_19 : decode cX5_compare 19 = .ok (.lstore_n 1, 1) := by decide +kernel
theorem dX5_compare_20 : decode cX5_compare 20 = .ok (.aload_n 0, 1) := by decide +kernel
theorem dX5_compare_21 : decode cX5_compare 21 = .ok (.iconst 1, 1) := by decide +kernel
theorem dX5_compare_22 : decode cX5_compare 22 = .ok (.invokevirtual 167, 3) := by decide +kernel
theorem dX5_compare_25 : decode cX5_compare 25 = .ok (.lstore_n 3, 1) := by decide +kernel
theorem dX5_compare_26 : decode cX5_compare 26 = .ok (.lload_n 1, 1) := by decide +kernel
theorem dX5_compare_27 : decode cX5_compare 27 = .ok (.lload_n 3, 1) := by decide +kernel
theorem dX5_compare_28 : decode cX5_compare 28 = .ok (.lcmp, 1) := by decide +kernel
theorem dX5_compare_29 : decode cX5_compare 29 = .ok (.ifCond .ne 7, 3) := by decide +kernel
theorem dX5_compare_32 : decode cX5_compare 32 = .ok (.iconst 0, 1) := by decide +kernel
theorem dX5_compare_33 : decode cX5_compare 33 = .ok (.goto 36, 3) := by decide +kernel
theorem dX5_compare_36 : decode cX5_compare 36 = .ok (.lload_n 1, 1) := by decide +kernel
theorem dX5_compare_37 : decode cX5_compare 37 = .ok (.lload_n 3, 1) := by decide +kernel
theorem dX5_compare_38 : decode cX5_compare 38 = .ok (.ldc2_w 60, 3) := by decide +kernel
theorem dX5_compare_41 : decode cX5_compare 41 = .ok (.lxor, 1) := by decide +kernel
theorem dX5_compare_42 : decode cX5_compare 42 = .ok (.land, 1) := by decide +kernel
theorem dX5_compare_43 : decode cX5_compare 43 = .ok (.lconst 0, 1) := by decide +kernel
theorem dX5_compare_44 : decode cX5_compare 44 = .ok (.lcmp, 1) := by decide +kernel
theorem dX5_compare_45 : decode cX5_compare 45 = .ok (.ifCond .ne 7, 3) := by decide +kernel
theorem dX5_compare_48 : decode cX5_compare 48 = .ok (.iconst 1, 1) := by decide +kernel
theorem dX5_compare_49 : decode cX5_compare 49 = .ok (.goto 20, 3) := by decide +kernel
theorem dX5_compare_52 : decode cX5_compare 52 = .ok (.lload_n 3, 1) := by decide +kernel
theorem dX5_compare_53 : decode cX5_compare 53 = .ok (.lload_n 1, 1) := by decide +kernel
theorem dX5_compare_54 : decode cX5_compare 54 = .ok (.ldc2_w 60, 3) := by decide +kernel
theorem dX5_compare_57 : decode cX5_compare 57 = .ok (.lxor, 1) := by decide +kernel
theorem dX5_compare_58 : decode cX5_compare 58 = .ok (.land, 1) := by decide +kernel
theorem dX5_compare_59 : decode cX5_compare 59 = .ok (.lconst 0, 1) := by decide +kernel
theorem dX5_compare_60 : decode cX5_compare 60 = .ok (.lcmp, 1) := by decide +kernel
theorem dX5_compare_61 : decode cX5_compare 61 = .ok (.ifCond .ne 7, 3) := by decide +kernel
theorem dX5_compare_64 : decode cX5_compare 64 = .ok (.iconst 2, 1) := by decide +kernel
theorem dX5_compare_65 : decode cX5_compare 65 = .ok (.goto 4, 3) := by decide +kernel
theorem dX5_compare_68 : decode cX5_compare 68 = .ok (.iconst 3, 1) := by decide +kernel
theorem dX5_compare_69 : decode cX5_compare 69 = .ok (.ireturn, 1) := by decide +kernel
theorem dX5_needed_0 : decode cX5_needed 0 = .ok (.iconst 0, 1) := by decide +kernel
theorem dX5_needed_1 : decode cX5_needed 1 = .ok (.istore_n 1, 1) := by decide +kernel
theorem dX5_needed_2 : decode cX5_needed 2 = .ok (.iconst 0, 1) := by decide +kernel
theorem dX5_needed_3 : decode cX5_needed 3 = .ok (.istore_n 2, 1) := by decide +kernel
theorem dX5_needed_4 : decode cX5_needed 4 = .ok (.iload_n 2, 1) := by decide +kernel
theorem dX5_needed_5 : decode cX5_needed 5 = .ok (.aload_n 0, 1) := by decide +kernel
theorem dX5_needed_6 : decode cX5_needed 6 = .ok (.getfield 77, 3) := by decide +kernel
theorem dX5_needed_9 : decode cX5_needed 9 = .ok (.if_icmp .ge 26, 3) := by decide +kernel
theorem dX5_needed_12 : decode cX5_needed 12 = .ok (.iload_n 1, 1) := by decide +kernel
theorem dX5_needed_13 : decode cX5_needed 13 = .ok (.aload_n 0, 1) := by decide +kernel
theorem dX5_needed_14 : decode cX5_needed 14 = .ok (.getfield 37, 3) := by decide +kernel
theorem dX5_needed_17 : decode cX5_needed 17 = .ok (.iload_n 2, 1) := by decide +kernel
theorem dX5_needed_18 : decode cX5_needed 18 = .ok (.baload, 1) := by decide +kernel
theorem dX5_needed_19 : decode cX5_needed 19 = .ok (.ifCond .eq 7, 3) := by decide +kernel
theorem dX5_needed_22 : decode cX5_needed 22 = .ok (.iconst 1, 1) := by decide +kernel
theorem dX5_needed_23 : decode cX5_needed 23 = .ok (.goto 4, 3) := by decide +kernel
theorem dX5_needed_26 : decode cX5_needed 26 = .ok (.iconst 0, 1) := by decide +kernel
theorem dX5_needed_27 : decode cX5_needed 27 = .ok (.iadd, 1) := by decide +kernel
theorem dX5_needed_28 : decode cX5_needed 28 = .ok (.istore_n 1, 1) := by decide +kernel
theorem dX5_needed_29 : decode cX5_needed 29 = .ok (.iinc 2 1, 3) := by decide +kernel
theorem dX5_needed_32 : decode cX5_needed 32 = .ok (.goto (-28), 3) := by decide +kernel
theorem dX5_needed_35 : decode cX5_needed 35 = .ok (.iload_n 1, 1) := by decide +kernel
theorem dX5_needed_36 : decode cX5_needed 36 = .ok (.ireturn, 1) := by decide +kernel
set_option maxRecDepth 20000 in
theorem ggX5_count_X5_prove : GoodIn wsX5_count wsX5_prove := goodIn_r _ [10, 11, 3, 12, 2, 1, 13, 14, 15, 16, 17, 18, 19, 20, 9, 21, 22, 23, 24, 25, 73, 74, 75, 76, 77, 78, 79, 80, 81, 82, 83, 84, 85, 86, 87, 88, 89, 90, 91, 92, 93, 94] (by decide +kernel) (by decide +kernel)
set_option maxRecDepth 20000 in
theorem gX5_count_X5_prove : GoodIn wsX5_count (wsV RX5 150 RX5 yX5_prove wsX5_prove) := goodIn_app (goodIn_of _ (by decide +kernel)) ggX5_count_X5_prove
set_option maxRecDepth 20000 in
theorem ggX5_count_X5_shared : GoodIn wsX5_count wsX5_shared := goodIn_r _ [29, 30, 31, 32, 9, 33, 1, 73, 74, 75, 76, 77, 78, 79, 80, 81, 82, 83, 84, 85, 86, 87, 88, 89, 90, 91, 92, 93, 94] (by decide +kernel) (by decide +kernel)
set_option maxRecDepth 20000 in
theorem gX5_count_X5_shared : GoodIn wsX5_count (wsV RX5 73 RX5 yX5_shared wsX5_shared) := goodIn_app (goodIn_of _ (by decide +kernel)) ggX5_count_X5_shared
set_option maxRecDepth 20000 in
theorem ggX5_count_X5_clash : GoodIn wsX5_count wsX5_clash := goodIn_r _ [37, 38, 39, 40, 9, 41, 42, 1, 43, 44, 45, 46, 47, 48, 49, 73, 74, 75, 76, 77, 78, 79, 80, 81, 82, 83, 84, 85, 86, 87, 88, 89, 90, 91, 92, 93, 94] (by decide +kernel) (by decide +kernel)
set_option maxRecDepth 20000 in
theorem gX5_count_X5_clash : GoodIn wsX5_count (wsV RX5 174 RX5 yX5_clash wsX5_clash) := goodIn_app (goodIn_of _ (by decide +kernel)) ggX5_count_X5_clash
set_option maxRecDepth 20000 in
theorem ggX5_count_X5_isProved : GoodIn wsX5_count wsX5_isProved := goodIn_r _ [53, 2, 12, 73, 74, 75, 76, 77, 78, 79, 80, 81, 82, 83, 84, 85, 86, 87, 88, 89, 90, 91, 92, 93, 94] (by decide +kernel) (by decide +kernel)
set_option maxRecDepth 20000 in
theorem gX5_count_X5_isProved : GoodIn wsX5_count (wsV RX5 153 RX5 yX5_isProved wsX5_isProved) := goodIn_app (goodIn_of _ (by decide +kernel)) ggX5_count_X5_isProved
set_option maxRecDepth 20000 in
theorem ggX5_count_X5_needed : GoodIn wsX5_count wsX5_needed := goodIn_r _ [57, 3, 15, 73, 74, 75, 76, 77, 78, 79, 80, 81, 82, 83, 84, 85, 86, 87, 88, 89, 90, 91, 92, 93, 94] (by decide +kernel) (by decide +kernel)
set_option maxRecDepth 20000 in
theorem gX5_count_X5_needed : GoodIn wsX5_count (wsV RX5 183 RX5 yX5_needed wsX5_needed) := goodIn_app (goodIn_of _ (by decide +kernel)) ggX5_count_X5_needed
set_option maxRecDepth 20000 in
theorem ggX5_count_X5_middleOf : GoodIn wsX5_count wsX5_middleOf := goodIn_r _ [61, 62, 12, 63, 64, 65, 9, 66, 3, 1, 42, 13, 14, 22, 16, 17, 30, 31, 32, 33, 47, 48, 49, 67, 68, 69, 73, 74, 75, 76, 77, 78, 79, 80, 81, 82, 83, 84, 85, 86, 87, 88, 89, 90, 91, 92, 93, 94] (by decide +kernel) (by decide +kernel)
set_option maxRecDepth 20000 in
theorem gX5_count_X5_middleOf : GoodIn wsX5_count (wsV RX5 167 RX5 yX5_middleOf wsX5_middleOf) := goodIn_app (goodIn_of _ (by decide +kernel)) ggX5_count_X5_middleOf
set_option maxRecDepth 20000 in
theorem ggX5_count_X5_bitsOf : GoodIn wsX5_count wsX5_bitsOf := goodIn_r _ [72] (by decide +kernel) (by decide +kernel)
set_option maxRecDepth 20000 in
theorem gX5_count_X5_bitsOf : GoodIn wsX5_count (va_wsS RX5 160 yX5_bitsOf wsX5_bitsOf) := goodIn_app (goodIn_of _ (by decide +kernel)) ggX5_count_X5_bitsOf
set_option maxRecDepth 20000 in
theorem ggX5_count_X5_worldsOfSide : GoodIn wsX5_count wsX5_worldsOfSide := goodIn_r _ [41, 42, 1, 43, 44, 45, 9, 46, 47, 48, 49, 73, 74, 75, 76, 77, 78, 79, 80, 81, 82, 83, 84, 85, 86, 87, 88, 89, 90, 91, 92, 93, 94] (by decide +kernel) (by decide +kernel)
set_option maxRecDepth 20000 in
theorem gX5_count_X5_worldsOfSide : GoodIn wsX5_count (wsV RX5 70 RX5 yX5_worldsOfSide wsX5_worldsOfSide) := goodIn_app (goodIn_of _ (by decide +kernel)) ggX5_count_X5_worldsOfSide
theorem dX5_count_0 : decode cX5_count 0 = .ok (.aload_n 0, 1) := by decide +kernel
theorem dX5_count_1 : decode cX5_count 1 = .ok (.invokevirtual 150, 3) := by decide +kernel
theorem dX5_count_4 : decode cX5_count 4 = .ok (.iload_n 1, 1) := by decide +kernel
theorem dX5_count_5 : decode cX5_count 5 = .ok (.tableswitch 180 0 10 #[59, 66, 71, 84, 102, 118, 131, 131, 155, 170, 175], 59) := by decide +kernel
theorem dX5_count_64 : decode cX5_count 64 = .ok (.aload_n 0, 1) := by decide +kernel
theorem dX5_count_65 : decode cX5_count 65 = .ok (.getfield 7, 3) := by decide +kernel
theorem dX5_count_68 : decode cX5_count 68 = .ok (.iconst 0, 1) := by decide +kernel
theorem dX5_count_69 : decode cX5_count 69 = .ok (.iaload, 1) := by decide +kernel
theorem dX5_count_70 : decode cX5_count 70 = .ok (.ireturn, 1) := by decide +kernel
theorem dX5_count_71 : decode cX5_count 71 = .ok (.aload_n 0, 1) := by decide +kernel
theorem dX5_count_72 : decode cX5_count 72 = .ok (.invokevirtual 73, 3) := by decide +kernel
theorem dX5_count_75 : decode cX5_count 75 = .ok (.ireturn, 1) := by decide +kernel
theorem dX5_count_76 : decode cX5_count 76 = .ok (.aload_n 0, 1) := by decide +kernel
theorem dX5_count_77 : decode cX5_count 77 = .ok (.invokevirtual 174, 3) := by decide +kernel
theorem dX5_count_80 : decode cX5_count 80 = .ok (.ifCond .eq 7, 3) := by decide +kernel
theorem dX5_count_83 : decode cX5_count 83 = .ok (.iconst 1, 1) := by decide +kernel
theorem dX5_count_84 : decode cX5_count 84 = .ok (.goto 4, 3) := by decide +kernel
theorem dX5_count_87 : decode cX5_count 87 = .ok (.iconst 0, 1) := by decide +kernel
theorem dX5_count_88 : decode cX5_count 88 = .ok (.ireturn, 1) := by decide +kernel
theorem dX5_count_89 : decode cX5_count 89 = .ok (.aload_n 0, 1) := by decide +kernel
theorem dX5_count_90 : decode cX5_count 90 = .ok (.getfield 83, 3) := by decide +kernel
theorem dX5_count_93 : decode cX5_count 93 = .ok (.ifCond .eq 10, 3) := by decide +kernel
theorem dX5_count_96 : decode cX5_count 96 = .ok (.aload_n 0, 1) := by decide +kernel
theorem dX5_count_97 : decode cX5_count 97 = .ok (.getfield 77, 3) := by decide +kernel
theorem dX5_count_100 : decode cX5_count 100 = .ok (.goto 6, 3) := by decide +kernel
theorem dX5_count_103 : decode cX5_count 103 = .ok (.sipush 401, 3) := by decide +kernel
theorem dX5_count_106 : decode cX5_count 106 = .ok (.ireturn, 1) := by decide +kernel
theorem dX5_count_107 : decode cX5_count 107 = .ok (.aload_n 0, 1) := by decide +kernel
theorem dX5_count_108 : decode cX5_count 108 = .ok (.invokevirtual 153, 3) := by decide +kernel
theorem dX5_count_111 : decode cX5_count 111 = .ok (.ifCond .eq 10, 3) := by decide +kernel
theorem dX5_count_114 : decode cX5_count 114 = .ok (.aload_n 0, 1) := by decide +kernel
theorem dX5_count_115 : decode cX5_count 115 = .ok (.invokevirtual 183, 3) := by decide +kernel
theorem dX5_count_118 : decode cX5_count 118 = .ok (.goto 4, 3) := by decide +kernel
theorem dX5_count_121 : decode cX5_count 121 = .ok (.iconst 0, 1) := by decide +kernel
theorem dX5_count_122 : decode cX5_count 122 = .ok (.ireturn, 1) := by decide +kernel
theorem dX5_count_123 : decode cX5_count 123 = .ok (.aload_n 0, 1) := by decide +kernel
theorem dX5_count_124 : decode cX5_count 124 = .ok (.invokevirtual 153, 3) := by decide +kernel
theorem dX5_count_127 : decode cX5_count 127 = .ok (.ifCond .eq 7, 3) := by decide +kernel
theorem dX5_count_130 : decode cX5_count 130 = .ok (.iconst 1, 1) := by decide +kernel
theorem dX5_count_131 : decode cX5_count 131 = .ok (.goto 4, 3) := by decide +kernel
theorem dX5_count_134 : decode cX5_count 134 = .ok (.iconst 0, 1) := by decide +kernel
theorem dX5_count_135 : decode cX5_count 135 = .ok (.ireturn, 1) := by decide +kernel
theorem dX5_count_136 : decode cX5_count 136 = .ok (.aload_n 0, 1) := by decide +kernel
theorem dX5_count_137 : decode cX5_count 137 = .ok (.invokevirtual 153, 3) := by decide +kernel
theorem dX5_count_140 : decode cX5_count 140 = .ok (.ifCond .eq 17, 3) := by decide +kernel
theorem dX5_count_143 : decode cX5_count 143 = .ok (.aload_n 0, 1) := by decide +kernel
theorem dX5_count_144 : decode cX5_count 144 = .ok (.iload_n 1, 1) := by decide +kernel
theorem dX5_count_145 : decode cX5_count 145 = .ok (.bipush 6, 2) := by decide +kernel
theorem dX5_count_147 : decode cX5_count 147 = .ok (.isub, 1) := by decide +kernel
theorem dX5_count_148 : decode cX5_count 148 = .ok (.invokevirtual 167, 3) := by decide +kernel
theorem dX5_count_151 : decode cX5_count 151 = .ok (.invokestatic 160, 3) := by decide +kernel
theorem dX5_count_154 : decode cX5_count 154 = .ok (.goto 5, 3) := by decide +kernel
theorem dX5_count_157 : decode cX5_count 157 = .ok (.bipush (-5), 2) := by decide +kernel
theorem dX5_count_159 : decode cX5_count 159 = .ok (.ireturn, 1) := by decide +kernel
theorem dX5_count_160 : decode cX5_count 160 = .ok (.aload_n 0, 1) := by decide +kernel
theorem dX5_count_161 : decode cX5_count 161 = .ok (.iconst 0, 1) := by decide +kernel
theorem dX5_count_162 : decode cX5_count 162 = .ok (.invokevirtual 70, 3) := by decide +kernel
theorem dX5_count_165 : decode cX5_count 165 = .ok (.aload_n 0, 1) := by decide +kernel
theorem dX5_count_166 : decode cX5_count 166 = .ok (.iconst 1, 1) := by decide +kernel
theorem dX5_count_167 : decode cX5_count 167 = .ok (.invokevirtual 70, 3) := by decide +kernel
theorem dX5_count_170 : decode cX5_count 170 = .ok (.land, 1) := by decide +kernel
theorem dX5_count_171 : decode cX5_count 171 = .ok (.invokestatic 160, 3) := by decide +kernel
theorem dX5_count_174 : decode cX5_count 174 = .ok (.ireturn, 1) := by decide +kernel
theorem dX5_count_175 : decode cX5_count 175 = .ok (.aload_n 0, 1) := by decide +kernel
theorem dX5_count_176 : decode cX5_count 176 = .ok (.getfield 52, 3) := by decide +kernel
theorem dX5_count_179 : decode cX5_count 179 = .ok (.ireturn, 1) := by decide +kernel
theorem dX5_count_180 : decode cX5_count 180 = .ok (.aload_n 0, 1) := by decide +kernel
theorem dX5_count_181 : decode cX5_count 181 = .ok (.getfield 111, 3) := by decide +kernel
theorem dX5_count_184 : decode cX5_count 184 = .ok (.ireturn, 1) := by decide +kernel
theorem dX5_count_185 : decode cX5_count 185 = .ok (.bipush (-2), 2) := by decide +kernel
theorem dX5_count_187 : decode cX5_count 187 = .ok (.ireturn, 1) := by decide +kernel
