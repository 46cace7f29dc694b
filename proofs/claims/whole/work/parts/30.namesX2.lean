theorem dX2_init_0 : decode cX2_init 0 = .ok (.aload_n 0, 1) := by decide +kernel
theorem dX2_init_1 : decode cX2_init 1 = .ok (.invokespecial 3, 3) := by decide +kernel
theorem dX2_init_4 : decode cX2_init 4 = .ok (.aload_n 0, 1) := by decide +kernel
theorem dX2_init_5 : decode cX2_init 5 = .ok (.sipush 400, 3) := by decide +kernel
theorem dX2_init_8 : decode cX2_init 8 = .ok (.newarray .int, 2) := by decide +kernel
theorem dX2_init_10 : decode cX2_init 10 = .ok (.putfield 9, 3) := by decide +kernel
theorem dX2_init_13 : decode cX2_init 13 = .ok (.aload_n 0, 1) := by decide +kernel
theorem dX2_init_14 : decode cX2_init 14 = .ok (.sipush 400, 3) := by decide +kernel
theorem dX2_init_17 : decode cX2_init 17 = .ok (.newarray .int, 2) := by decide +kernel
theorem dX2_init_19 : decode cX2_init 19 = .ok (.putfield 15, 3) := by decide +kernel
theorem dX2_init_22 : decode cX2_init 22 = .ok (.aload_n 0, 1) := by decide +kernel
theorem dX2_init_23 : decode cX2_init 23 = .ok (.sipush 400, 3) := by decide +kernel
theorem dX2_init_26 : decode cX2_init 26 = .ok (.newarray .int, 2) := by decide +kernel
theorem dX2_init_28 : decode cX2_init 28 = .ok (.putfield 18, 3) := by decide +kernel
theorem dX2_init_31 : decode cX2_init 31 = .ok (.aload_n 0, 1) := by decide +kernel
theorem dX2_init_32 : decode cX2_init 32 = .ok (.sipush 400, 3) := by decide +kernel
theorem dX2_init_35 : decode cX2_init 35 = .ok (.newarray .int, 2) := by decide +kernel
theorem dX2_init_37 : decode cX2_init 37 = .ok (.putfield 21, 3) := by decide +kernel
theorem dX2_init_40 : decode cX2_init 40 = .ok (.aload_n 0, 1) := by decide +kernel
theorem dX2_init_41 : decode cX2_init 41 = .ok (.sipush 400, 3) := by decide +kernel
theorem dX2_init_44 : decode cX2_init 44 = .ok (.newarray .int, 2) := by decide +kernel
theorem dX2_init_46 : decode cX2_init 46 = .ok (.putfield 24, 3) := by decide +kernel
theorem dX2_init_49 : decode cX2_init 49 = .ok (.aload_n 0, 1) := by decide +kernel
theorem dX2_init_50 : decode cX2_init 50 = .ok (.sipush 400, 3) := by decide +kernel
theorem dX2_init_53 : decode cX2_init 53 = .ok (.newarray .long, 2) := by decide +kernel
theorem dX2_init_55 : decode cX2_init 55 = .ok (.putfield 27, 3) := by decide +kernel
theorem dX2_init_58 : decode cX2_init 58 = .ok (.aload_n 0, 1) := by decide +kernel
theorem dX2_init_59 : decode cX2_init 59 = .ok (.sipush 400, 3) := by decide +kernel
theorem dX2_init_62 : decode cX2_init 62 = .ok (.newarray .long, 2) := by decide +kernel
theorem dX2_init_64 : decode cX2_init 64 = .ok (.putfield 31, 3) := by decide +kernel
theorem dX2_init_67 : decode cX2_init 67 = .ok (.aload_n 0, 1) := by decide +kernel
theorem dX2_init_68 : decode cX2_init 68 = .ok (.sipush 400, 3) := by decide +kernel
theorem dX2_init_71 : decode cX2_init 71 = .ok (.newarray .boolean, 2) := by decide +kernel
theorem dX2_init_73 : decode cX2_init 73 = .ok (.putfield 34, 3) := by decide +kernel
theorem dX2_init_76 : decode cX2_init 76 = .ok (.aload_n 0, 1) := by decide +kernel
theorem dX2_init_77 : decode cX2_init 77 = .ok (.bipush 64, 2) := by decide +kernel
theorem dX2_init_79 : decode cX2_init 79 = .ok (.newarray .long, 2) := by decide +kernel
theorem dX2_init_81 : decode cX2_init 81 = .ok (.putfield 38, 3) := by decide +kernel
theorem dX2_init_84 : decode cX2_init 84 = .ok (.aload_n 0, 1) := by decide +kernel
theorem dX2_init_85 : decode cX2_init 85 = .ok (.iconst 0, 1) := by decide +kernel
theorem dX2_init_86 : decode cX2_init 86 = .ok (.putfield 41, 3) := by decide +kernel
theorem dX2_init_89 : decode cX2_init 89 = .ok (.return_, 1) := by decide +kernel
theorem dX2_size_0 : decode cX2_size 0 = .ok (.aload_n 0, 1) := by decide +kernel
theorem dX2_size_1 : decode cX2_size 1 = .ok (.getfield 41, 3) := by decide +kernel
theorem dX2_size_4 : decode cX2_size 4 = .ok (.ireturn, 1) := by decide +kernel
theorem dX2_isKnown_0 : decode cX2_isKnown 0 = .ok (.aload_n 0, 1) := by decide +kernel
theorem dX2_isKnown_1 : decode cX2_isKnown 1 = .ok (.getfield 45, 3) := by decide +kernel
theorem dX2_isKnown_4 : decode cX2_isKnown 4 = .ok (.ifCond .ne 7, 3) := by decide +kernel
theorem dX2_isKnown_7 : decode cX2_isKnown 7 = .ok (.iconst 1, 1) := by decide +kernel
theorem dX2_isKnown_8 : decode cX2_isKnown 8 = .ok (.goto 4, 3) := by decide +kernel
theorem dX2_isKnown_11 : decode cX2_isKnown 11 = .ok (.iconst 0, 1) := by decide +kernel
theorem dX2_isKnown_12 : decode cX2_isKnown 12 = .ok (.ireturn, 1) := by decide +kernel
theorem dX2_hasEmptyClause_0 : decode cX2_hasEmptyClause 0 = .ok (.aload_n 0, 1) := by decide +kernel
theorem dX2_hasEmptyClause_1 : decode cX2_hasEmptyClause 1 = .ok (.getfield 49, 3) := by decide +kernel
theorem dX2_hasEmptyClause_4 : decode cX2_hasEmptyClause 4 = .ok (.ireturn, 1) := by decide +kernel
theorem dX2_has_0 : decode cX2_has 0 = .ok (.iload_n 1, 1) := by decide +kernel
theorem dX2_has_1 : decode cX2_has 1 = .ok (.ifCond .lt 22, 3) := by decide +kernel
theorem dX2_has_4 : decode cX2_has 4 = .ok (.iload_n 1, 1) := by decide +kernel
theorem dX2_has_5 : decode cX2_has 5 = .ok (.aload_n 0, 1) := by decide +kernel
theorem dX2_has_6 : decode cX2_has 6 = .ok (.getfield 41, 3) := by decide +kernel
theorem dX2_has_9 : decode cX2_has 9 = .ok (.if_icmp .ge 14, 3) := by decide +kernel
theorem dX2_has_12 : decode cX2_has 12 = .ok (.iload_n 1, 1) := by decide +kernel
theorem dX2_has_13 : decode cX2_has 13 = .ok (.sipush 400, 3) := by decide +kernel
theorem dX2_has_16 : decode cX2_has 16 = .ok (.if_icmp .ge 7, 3) := by decide +kernel
theorem dX2_has_19 : decode cX2_has 19 = .ok (.iconst 1, 1) := by decide +kernel
theorem dX2_has_20 : decode cX2_has 20 = .ok (.goto 4, 3) := by decide +kernel
theorem dX2_has_23 : decode cX2_has 23 = .ok (.iconst 0, 1) := by decide +kernel
theorem dX2_has_24 : decode cX2_has 24 = .ok (.ireturn, 1) := by decide +kernel
set_option maxRecDepth 20000 in
theorem ggX2_signsOf_X2_has : GoodIn wsX2_signsOf wsX2_has := goodIn_r _ [6, 7, 8, 9, 10, 11, 12, 13, 14, 15, 16, 17, 18, 19, 20, 21] (by decide +kernel) (by decide +kernel)
set_option maxRecDepth 20000 in
theorem gX2_signsOf_X2_has : GoodIn wsX2_signsOf (wsV RX2 52 RX2 yX2_has wsX2_has) := goodIn_app (goodIn_of _ (by decide +kernel)) ggX2_signsOf_X2_has
theorem dX2_signsOf_0 : decode cX2_signsOf 0 = .ok (.aload_n 0, 1) := by decide +kernel
theorem dX2_signsOf_1 : decode cX2_signsOf 1 = .ok (.iload_n 1, 1) := by decide +kernel
theorem dX2_signsOf_2 : decode cX2_signsOf 2 = .ok (.invokevirtual 52, 3) := by decide +kernel
theorem dX2_signsOf_5 : decode cX2_signsOf 5 = .ok (.ifCond .eq 12, 3) := by decide +kernel
theorem dX2_signsOf_8 : decode cX2_signsOf 8 = .ok (.aload_n 0, 1) := by decide +kernel
theorem dX2_signsOf_9 : decode cX2_signsOf 9 = .ok (.getfield 9, 3) := by decide +kernel
theorem dX2_signsOf_12 : decode cX2_signsOf 12 = .ok (.iload_n 1, 1) := by decide +kernel
theorem dX2_signsOf_13 : decode cX2_signsOf 13 = .ok (.iaload, 1) := by decide +kernel
theorem dX2_signsOf_14 : decode cX2_signsOf 14 = .ok (.goto 4, 3) := by decide +kernel
theorem dX2_signsOf_17 : decode cX2_signsOf 17 = .ok (.iconst 0, 1) := by decide +kernel
theorem dX2_signsOf_18 : decode cX2_signsOf 18 = .ok (.ireturn, 1) := by decide +kernel
set_option maxRecDepth 20000 in
theorem ggX2_oppositesOf_X2_has : GoodIn wsX2_oppositesOf wsX2_has := goodIn_r _ [6, 7, 8, 9, 10, 11, 12, 13, 14, 15, 16, 17, 18, 19, 20, 21] (by decide +kernel) (by decide +kernel)
set_option maxRecDepth 20000 in
theorem gX2_oppositesOf_X2_has : GoodIn wsX2_oppositesOf (wsV RX2 52 RX2 yX2_has wsX2_has) := goodIn_app (goodIn_of _ (by decide +kernel)) ggX2_oppositesOf_X2_has
theorem dX2_oppositesOf_0 : decode cX2_oppositesOf 0 = .ok (.aload_n 0, 1) := by decide +kernel
theorem dX2_oppositesOf_1 : decode cX2_oppositesOf 1 = .ok (.iload_n 1, 1) := by decide +kernel
theorem dX2_oppositesOf_2 : decode cX2_oppositesOf 2 = .ok (.invokevirtual 52, 3) := by decide +kernel
theorem dX2_oppositesOf_5 : decode cX2_oppositesOf 5 = .ok (.ifCond .eq 12, 3) := by decide +kernel
theorem dX2_oppositesOf_8 : decode cX2_oppositesOf 8 = .ok (.aload_n 0, 1) := by decide +kernel
theorem dX2_oppositesOf_9 : decode cX2_oppositesOf 9 = .ok (.getfield 15, 3) := by decide +kernel
theorem dX2_oppositesOf_12 : decode cX2_oppositesOf 12 = .ok (.iload_n 1, 1) := by decide +kernel
theorem dX2_oppositesOf_13 : decode cX2_oppositesOf 13 = .ok (.iaload, 1) := by decide +kernel
theorem dX2_oppositesOf_14 : decode cX2_oppositesOf 14 = .ok (.goto 4, 3) := by decide +kernel
theorem dX2_oppositesOf_17 : decode cX2_oppositesOf 17 = .ok (.iconst 0, 1) := by decide +kernel
theorem dX2_oppositesOf_18 : decode cX2_oppositesOf 18 = .ok (.ireturn, 1) := by decide +kernel
set_option maxRecDepth 20000 in
theorem ggX2_firstParentOf_X2_has : GoodIn wsX2_firstParentOf wsX2_has := goodIn_r _ [6, 7, 8, 9, 10, 11, 12, 13, 14, 15, 16, 17, 18, 19, 20, 21] (by decide +kernel) (by decide +kernel)
set_option maxRecDepth 20000 in
theorem gX2_firstParentOf_X2_has : GoodIn wsX2_firstParentOf (wsV RX2 52 RX2 yX2_has wsX2_has) := goodIn_app (goodIn_of _ (by decide +kernel)) ggX2_firstParentOf_X2_has
theorem dX2_firstParentOf_0 : decode cX2_firstParentOf 0 = .ok (.aload_n 0, 1) := by decide +kernel
theorem dX2_firstParentOf_1 : decode cX2_firstParentOf 1 = .ok (.iload_n 1, 1) := by decide +kernel
theorem dX2_firstParentOf_2 : decode cX2_firstParentOf 2 = .ok (.invokevirtual 52, 3) := by decide +kernel
theorem dX2_firstParentOf_5 : decode cX2_firstParentOf 5 = .ok (.ifCond .eq 12, 3) := by decide +kernel
theorem dX2_firstParentOf_8 : decode cX2_firstParentOf 8 = .ok (.aload_n 0, 1) := by decide +kernel
theorem dX2_firstParentOf_9 : decode cX2_firstParentOf 9 = .ok (.getfield 18, 3) := by decide +kernel
theorem dX2_firstParentOf_12 : decode cX2_firstParentOf 12 = .ok (.iload_n 1, 1) := by decide +kernel
theorem dX2_firstParentOf_13 : decode cX2_firstParentOf 13 = .ok (.iaload, 1) := by decide +kernel
theorem dX2_firstParentOf_14 : decode cX2_firstParentOf 14 = .ok (.goto 5, 3) := by decide +kernel
theorem dX2_firstParentOf_17 : decode cX2_firstParentOf 17 = .ok (.bipush (-5), 2) := by decide +kernel
theorem dX2_firstParentOf_19 : decode cX2_firstParentOf 19 = .ok (.ireturn, 1) := by decide +kernel
set_option maxRecDepth 20000 in
theorem ggX2_secondParentOf_X2_has : GoodIn wsX2_secondParentOf wsX2_has := goodIn_r _ [6, 7, 8, 9, 10, 11, 12, 13, 14, 15, 16, 17, 18, 19, 20, 21] (by decide +kernel) (by decide +kernel)
set_option maxRecDepth 20000 in
theorem gX2_secondParentOf_X2_has : GoodIn wsX2_secondParentOf (wsV RX2 52 RX2 yX2_has wsX2_has) := goodIn_app (goodIn_of _ (by decide +kernel)) ggX2_secondParentOf_X2_has
theorem dX2_secondParentOf_0 : decode cX2_secondParentOf 0 = .ok (.aload_n 0, 1) := by decide +kernel
theorem dX2_secondParentOf_1 : decode cX2_secondParentOf 1 = .ok (.iload_n 1, 1) := by decide +kernel
theorem dX2_secondParentOf_2 : decode cX2_secondParentOf 2 = .ok (.invokevirtual 52, 3) := by decide +kernel
theorem dX2_secondParentOf_5 : decode cX2_secondParentOf 5 = .ok (.ifCond .eq 12, 3) := by decide +kernel
theorem dX2_secondParentOf_8 : decode cX2_secondParentOf 8 = .ok (.aload_n 0, 1) := by decide +kernel
theorem dX2_secondParentOf_9 : decode cX2_secondParentOf 9 = .ok (.getfield 21, 3) := by decide +kernel
theorem dX2_secondParentOf_12 : decode cX2_secondParentOf 12 = .ok (.iload_n 1, 1) := by decide +kernel
theorem dX2_secondParentOf_13 : decode cX2_secondParentOf 13 = .ok (.iaload, 1) := by decide +kernel
theorem dX2_secondParentOf_14 : decode cX2_secondParentOf 14 = .ok (.goto 5, 3) := by decide +kernel
theorem dX2_secondParentOf_17 : decode cX2_secondParentOf 17 = .ok (.bipush (-5), 2) := by decide +kernel
theorem dX2_secondParentOf_19 : decode cX2_secondParentOf 19 = .ok (.ireturn, 1) := by decide +kernel
set_option maxRecDepth 20000 in
theorem ggX2_pivotOf_X2_has : GoodIn wsX2_pivotOf wsX2_has := goodIn_r _ [6, 7, 8, 9, 10, 11, 12, 13, 14, 15, 16, 17, 18, 19, 20, 21] (by decide +kernel) (by decide +kernel)
set_option maxRecDepth 20000 in
theorem gX2_pivotOf_X2_has : GoodIn wsX2_pivotOf (wsV RX2 52 RX2 yX2_has wsX2_has) := goodIn_app (goodIn_of _ (by decide +kernel)) ggX2_pivotOf_X2_has
theorem dX2_pivotOf_0 : decode cX2_pivotOf 0 = .ok (.aload_n 0, 1) := by decide +kernel
theorem dX2_pivotOf_1 : decode cX2_pivotOf 1 = .ok (.iload_n 1, 1) := by decide +kernel
theorem dX2_pivotOf_2 : decode cX2_pivotOf 2 = .ok (.invokevirtual 52, 3) := by decide +kernel
theorem dX2_pivotOf_5 : decode cX2_pivotOf 5 = .ok (.ifCond .eq 12, 3) := by decide +kernel
theorem dX2_pivotOf_8 : decode cX2_pivotOf 8 = .ok (.aload_n 0, 1) := by decide +kernel
theorem dX2_pivotOf_9 : decode cX2_pivotOf 9 = .ok (.getfield 24, 3) := by decide +kernel
theorem dX2_pivotOf_12 : decode cX2_pivotOf 12 = .ok (.iload_n 1, 1) := by decide +kernel
theorem dX2_pivotOf_13 : decode cX2_pivotOf 13 = .ok (.iaload, 1) := by decide +kernel
theorem dX2_pivotOf_14 : decode cX2_pivotOf 14 = .ok (.goto 5, 3) := by decide +kernel
theorem dX2_pivotOf_17 : decode cX2_pivotOf 17 = .ok (.bipush (-5), 2) := by decide +kernel
theorem dX2_pivotOf_19 : decode cX2_pivotOf 19 = .ok (.ireturn, 1) := by decide +kernel
set_option maxRecDepth 20000 in
theorem ggX2_isNeeded_X2_has : GoodIn wsX2_isNeeded wsX2_has := goodIn_r _ [6, 7, 8, 9, 10, 11, 12, 13, 14, 15, 16, 17, 18, 19, 20, 21] (by decide +kernel) (by decide +kernel)
set_option maxRecDepth 20000 in
theorem gX2_isNeeded_X2_has : GoodIn wsX2_isNeeded (wsV RX2 52 RX2 yX2_has wsX2_has) := goodIn_app (goodIn_of _ (by decide +kernel)) ggX2_isNeeded_X2_has
theorem dX2_isNeeded_0 : decode cX2_isNeeded 0 = .ok (.aload_n 0, 1) := by decide +kernel
theorem dX2_isNeeded_1 : decode cX2_isNeeded 1 = .ok (.iload_n 1, 1) := by decide +kernel
theorem dX2_isNeeded_2 : decode cX2_isNeeded 2 = .ok (.invokevirtual 52, 3) := by decide +kernel
theorem dX2_isNeeded_5 : decode cX2_isNeeded 5 = .ok (.ifCond .eq 16, 3) := by decide +kernel
theorem dX2_isNeeded_8 : decode cX2_isNeeded 8 = .ok (.aload_n 0, 1) := by decide +kernel
theorem dX2_isNeeded_9 : decode cX2_isNeeded 9 = .ok (.getfield 34, 3) := by decide +kernel
theorem dX2_isNeeded_12 : decode cX2_isNeeded 12 = .ok (.iload_n 1, 1) := by decide +kernel
theorem dX2_isNeeded_13 : decode cX2_isNeeded 13 = .ok (.baload, 1) := by decide +kernel
theorem dX2_isNeeded_14 : decode cX2_isNeeded 14 = .ok (.ifCond .eq 7, 3) := by decide +kernel
theorem dX2_isNeeded_17 : decode cX2_isNeeded 17 = .ok (.iconst 1, 1) := by decide +kernel
theorem dX2_isNeeded_18 : decode cX2_isNeeded 18 = .ok (.goto 4, 3) := by decide +kernel
theorem dX2_isNeeded_21 : decode cX2_isNeeded 21 = .ok (.iconst 0, 1) := by decide +kernel
theorem dX2_isNeeded_22 : decode cX2_isNeeded 22 = .ok (.ireturn, 1) := by decide +kernel
set_option maxRecDepth 20000 in
theorem ggX2_neededAmong_X2_isNeeded : GoodIn wsX2_neededAmong wsX2_isNeeded := goodIn_r _ [6, 7, 8, 9, 10, 5, 11, 1, 15, 16, 17, 18, 19, 20, 21, 22, 23, 24, 25, 26, 27, 28] (by decide +kernel) (by decide +kernel)
set_option maxRecDepth 20000 in
theorem gX2_neededAmong_X2_isNeeded : GoodIn wsX2_neededAmong (wsV RX2 56 RX2 yX2_isNeeded wsX2_isNeeded) := goodIn_app (goodIn_of _ (by decide +kernel)) ggX2_neededAmong_X2_isNeeded
set_option maxRecDepth 20000 in
theorem ggX2_neededAmong_X4_asNumber : GoodIn wsX2_neededAmong wsX4_asNumber := goodIn_r _ [14] (by decide +kernel) (by decide +kernel)
set_option maxRecDepth 20000 in
theorem gX2_neededAmong_X4_asNumber_n59 : GoodIn wsX2_neededAmong (wsX4_asNumber) := ggX2_neededAmong_X4_asNumber
theorem dX2_neededAmong_0 : decode cX2_neededAmong 0 = .ok (.iconst 0, 1) := by decide +kernel
theorem dX2_neededAmong_1 : decode cX2_neededAmong 1 = .ok (.istore_n 2, 1) := by decide +kernel
theorem dX2_neededAmong_2 : decode cX2_neededAmong 2 = .ok (.iconst 0, 1) := by decide +kernel
theorem dX2_neededAmong_3 : decode cX2_neededAmong 3 = .ok (.istore_n 3, 1) := by decide +kernel
theorem dX2_neededAmong_4 : decode cX2_neededAmong 4 = .ok (.iload_n 3, 1) := by decide +kernel
theorem dX2_neededAmong_5 : decode cX2_neededAmong 5 = .ok (.iload_n 1, 1) := by decide +kernel
theorem dX2_neededAmong_6 : decode cX2_neededAmong 6 = .ok (.if_icmp .ge 28, 3) := by decide +kernel
theorem dX2_neededAmong_9 : decode cX2_neededAmong 9 = .ok (.iload_n 3, 1) := by decide +kernel
theorem dX2_neededAmong_10 : decode cX2_neededAmong 10 = .ok (.aload_n 0, 1) := by decide +kernel
theorem dX2_neededAmong_11 : decode cX2_neededAmong 11 = .ok (.getfield 41, 3) := by decide +kernel
theorem dX2_neededAmong_14 : decode cX2_neededAmong 14 = .ok (.if_icmp .ge 20, 3) := by decide +kernel
theorem dX2_neededAmong_17 : decode cX2_neededAmong 17 = .ok (.iload_n 2, 1) := by decide +kernel
theorem dX2_neededAmong_18 : decode cX2_neededAmong 18 = .ok (.aload_n 0, 1) := by decide +kernel
theorem dX2_neededAmong_19 : decode cX2_neededAmong 19 = .ok (.iload_n 3, 1) := by decide +kernel
theorem dX2_neededAmong_20 : decode cX2_neededAmong 20 = .ok (.invokevirtual 56, 3) := by decide +kernel
theorem dX2_neededAmong_23 : decode cX2_neededAmong 23 = .ok (.invokestatic 59, 3) := by decide +kernel
theorem dX2_neededAmong_26 : decode cX2_neededAmong 26 = .ok (.iadd, 1) := by decide +kernel
theorem dX2_neededAmong_27 : decode cX2_neededAmong 27 = .ok (.istore_n 2, 1) := by decide +kernel
theorem dX2_neededAmong_28 : decode cX2_neededAmong 28 = .ok (.iinc 3 1, 3) := by decide +kernel
theorem dX2_neededAmong_31 : decode cX2_neededAmong 31 = .ok (.goto (-27), 3) := by decide +kernel
theorem dX2_neededAmong_34 : decode cX2_neededAmong 34 = .ok (.iload_n 2, 1) := by decide +kernel
theorem dX2_neededAmong_35 : decode cX2_neededAmong 35 = .ok (.ireturn, 1) := by decide +kernel
set_option maxRecDepth 20000 in
theorem ggX2_partialClaim_X2_has : GoodIn wsX2_partialClaim wsX2_has := goodIn_r _ [7, 8, 9, 10, 11, 12, 13, 14, 15, 16, 17, 18, 19, 20, 21, 22] (by decide +kernel) (by decide +kernel)
set_option maxRecDepth 20000 in
theorem gX2_partialClaim_X2_has : GoodIn wsX2_partialClaim (wsV RX2 52 RX2 yX2_has wsX2_has) := goodIn_app (goodIn_of _ (by decide +kernel)) ggX2_partialClaim_X2_has
theorem dX2_partialClaim_0 : decode cX2_partialClaim 0 = .ok (.aload_n 0, 1) := by decide +kernel
theorem dX2_partialClaim_1 : decode cX2_partialClaim 1 = .ok (.iload_n 1, 1) := by decide +kernel
theorem dX2_partialClaim_2 : decode cX2_partialClaim 2 = .ok (.invokevirtual 52, 3) := by decide +kernel
theorem dX2_partialClaim_5 : decode cX2_partialClaim 5 = .ok (.ifCond .ne 5, 3) := by decide +kernel
theorem dX2_partialClaim_8 : decode cX2_partialClaim 8 = .ok (.lconst 0, 1) := by decide +kernel
theorem dX2_partialClaim_9 : decode cX2_partialClaim 9 = .ok (.lreturn, 1) := by decide +kernel
theorem dX2_partialClaim_10 : decode cX2_partialClaim 10 = .ok (.iload_n 2, 1) := by decide +kernel
theorem dX2_partialClaim_11 : decode cX2_partialClaim 11 = .ok (.ifCond .ne 12, 3) := by decide +kernel
theorem dX2_partialClaim_14 : decode cX2_partialClaim 14 = .ok (.aload_n 0, 1) := by decide +kernel
theorem dX2_partialClaim_15 : decode cX2_partialClaim 15 = .ok (.getfield 27, 3) := by decide +kernel
theorem dX2_partialClaim_18 : decode cX2_partialClaim 18 = .ok (.iload_n 1, 1) := by decide +kernel
theorem dX2_partialClaim_19 : decode cX2_partialClaim 19 = .ok (.laload, 1) := by decide +kernel
theorem dX2_partialClaim_20 : decode cX2_partialClaim 20 = .ok (.goto 9, 3) := by decide +kernel
theorem dX2_partialClaim_23 : decode cX2_partialClaim 23 = .ok (.aload_n 0, 1) := by decide +kernel
theorem dX2_partialClaim_24 : decode cX2_partialClaim 24 = .ok (.getfield 31, 3) := by decide +kernel
theorem dX2_partialClaim_27 : decode cX2_partialClaim 27 = .ok (.iload_n 1, 1) := by decide +kernel
theorem dX2_partialClaim_28 : decode cX2_partialClaim 28 = .ok (.laload, 1) := by decide +kernel
theorem dX2_partialClaim_29 : decode cX2_partialClaim 29 = .ok (.lreturn, 1) := by decide +kernel
set_option maxRecDepth 20000 in
theorem ggX2_middleClaim_X2_partialClaim : GoodIn wsX2_middleClaim wsX2_partialClaim := goodIn_r _ [6, 7, 8, 9, 10, 11, 5, 12, 1, 13, 14, 15, 16, 17, 18, 19, 20, 21, 22, 23, 24, 25, 26] (by decide +kernel) (by decide +kernel)
set_option maxRecDepth 20000 in
theorem gX2_middleClaim_X2_partialClaim : GoodIn wsX2_middleClaim (wsV RX2 63 RX2 yX2_partialClaim wsX2_partialClaim) := goodIn_app (goodIn_of _ (by decide +kernel)) ggX2_middleClaim_X2_partialClaim
theorem dX2_middleClaim_0 : decode cX2_middleClaim 0 = .ok (.aload_n 0, 1) := by decide +kernel
theorem dX2_middleClaim_1 : decode cX2_middleClaim 1 = .ok (.aload_n 0, 1) := by decide +kernel
theorem dX2_middleClaim_2 : decode cX2_middleClaim 2 = .ok (.getfield 41, 3) := by decide +kernel
theorem dX2_middleClaim_5 : decode cX2_middleClaim 5 = .ok (.iconst 1, 1) := by decide +kernel
theorem dX2_middleClaim_6 : decode cX2_middleClaim 6 = .ok (.isub, 1) := by decide +kernel
theorem dX2_middleClaim_7 : decode cX2_middleClaim 7 = .ok (.iload_n 1, 1) := by decide +kernel
theorem dX2_middleClaim_8 : decode cX2_middleClaim 8 = .ok (.invokevirtual 63, 3) := by decide +kernel
theorem dX2_middleClaim_11 : decode cX2_middleClaim 11 = .ok (.lreturn, 1) := by decide +kernel
set_option maxRecDepth 20000 in
theorem ggX2_make_X0_signsKnownTo : GoodIn wsX2_make wsX0_signsKnownTo := goodIn_r _ [11, 12, 13, 14, 15, 10, 16, 17, 18, 19, 20, 21, 22, 23, 24, 25, 26, 27, 28, 29, 30, 31, 141, 142, 143, 144] (by decide +kernel) (by decide +kernel)
set_option maxRecDepth 20000 in
theorem gX2_make_X0_signsKnownTo : GoodIn wsX2_make (wsV RX2 67 RX0 yX0_signsKnownTo wsX0_signsKnownTo) := goodIn_app (goodIn_of _ (by decide +kernel)) ggX2_make_X0_signsKnownTo
set_option maxRecDepth 20000 in
theorem ggX2_make_X0_size : GoodIn wsX2_make wsX0_size := goodIn_r _ [35, 12, 141, 142, 143, 144] (by decide +kernel) (by decide +kernel)
set_option maxRecDepth 20000 in
theorem gX2_make_X0_size : GoodIn wsX2_make (wsV RX2 79 RX0 yX0_size wsX0_size) := goodIn_app (goodIn_of _ (by decide +kernel)) ggX2_make_X0_size
set_option maxRecDepth 20000 in
theorem ggX2_make_X0_sideOf : GoodIn wsX2_make wsX0_sideOf := goodIn_r _ [16, 17, 18, 19, 20, 10, 21, 12, 141, 142, 143, 144] (by decide +kernel) (by decide +kernel)
set_option maxRecDepth 20000 in
theorem gX2_make_X0_sideOf : GoodIn wsX2_make (wsV RX2 82 RX0 yX0_sideOf wsX0_sideOf) := goodIn_app (goodIn_of _ (by decide +kernel)) ggX2_make_X0_sideOf
set_option maxRecDepth 20000 in
theorem ggX2_make_X0_signsOf : GoodIn wsX2_make wsX0_signsOf := goodIn_r _ [25, 26, 18, 19, 20, 10, 21, 12, 17, 141, 142, 143, 144] (by decide +kernel) (by decide +kernel)
set_option maxRecDepth 20000 in
theorem gX2_make_X0_signsOf : GoodIn wsX2_make (wsV RX2 85 RX0 yX0_signsOf wsX0_signsOf) := goodIn_app (goodIn_of _ (by decide +kernel)) ggX2_make_X0_signsOf
set_option maxRecDepth 20000 in
theorem ggX2_make_X0_oppositesOf : GoodIn wsX2_make wsX0_oppositesOf := goodIn_r _ [30, 31, 18, 19, 20, 10, 21, 12, 17, 141, 142, 143, 144] (by decide +kernel) (by decide +kernel)
set_option maxRecDepth 20000 in
theorem gX2_make_X0_oppositesOf : GoodIn wsX2_make (wsV RX2 88 RX0 yX0_oppositesOf wsX0_oppositesOf) := goodIn_app (goodIn_of _ (by decide +kernel)) ggX2_make_X0_oppositesOf
set_option maxRecDepth 20000 in
theorem ggX2_make_X2_appendClause : GoodIn wsX2_make wsX2_appendClause := goodIn_r _ [43, 4, 5, 44, 45, 46, 47, 48, 49, 50, 51, 52, 53, 54, 55, 56, 57, 58, 42, 59, 1, 60, 61, 62, 63, 64, 65, 66, 67, 6, 127, 128, 129, 130, 131, 132, 133, 134, 135, 136, 137, 138, 139, 140] (by decide +kernel) (by decide +kernel)
set_option maxRecDepth 20000 in
theorem gX2_make_X2_appendClause : GoodIn wsX2_make (wsV RX2 91 RX2 yX2_appendClause wsX2_appendClause) := goodIn_app (goodIn_of _ (by decide +kernel)) ggX2_make_X2_appendClause
set_option maxRecDepth 20000 in
theorem ggX2_make_X2_resolveAll : GoodIn wsX2_make wsX2_resolveAll := goodIn_r _ [71, 1, 60, 61, 2, 3, 72, 73, 74, 75, 76, 77, 78, 79, 80, 81, 42, 82, 83, 84, 85, 86, 87, 88, 89, 90, 91, 92, 93, 94, 95, 96, 97, 98, 6, 99, 100, 101, 102, 65, 66, 103, 104, 105, 106, 5, 4, 44, 50, 46, 51, 53, 54, 55, 56, 57, 58, 59, 62, 63, 64, 67, 127, 128, 129, 130, 131, 132, 133, 134, 135, 136, 137, 138, 139, 140] (by decide +kernel) (by decide +kernel)
set_option maxRecDepth 20000 in
theorem gX2_make_X2_resolveAll : GoodIn wsX2_make (wsV RX2 95 RX2 yX2_resolveAll wsX2_resolveAll) := goodIn_app (goodIn_of _ (by decide +kernel)) ggX2_make_X2_resolveAll
set_option maxRecDepth 20000 in
theorem ggX2_make_X2_markNeededSteps : GoodIn wsX2_make wsX2_markNeededSteps := goodIn_r _ [110, 1, 111, 112, 113, 42, 114, 67, 87, 88, 89, 90, 115, 116, 117, 118, 119, 120, 121, 122, 62, 123, 124, 125, 126, 63, 127, 128, 129, 130, 131, 132, 133, 134, 135, 136, 137, 138, 139, 140] (by decide +kernel) (by decide +kernel)
set_option maxRecDepth 20000 in
theorem gX2_make_X2_markNeededSteps : GoodIn wsX2_make (wsV RX2 98 RX2 yX2_markNeededSteps wsX2_markNeededSteps) := goodIn_app (goodIn_of _ (by decide +kernel)) ggX2_make_X2_markNeededSteps
theorem dX2_make_0 : decode cX2_make 0 = .ok (.aload_n 0, 1) := by decide +kernel
theorem dX2_make_1 : decode cX2_make 1 = .ok (.iconst 0, 1) := by decide +kernel
theorem dX2_make_2 : decode cX2_make 2 = .ok (.putfield 41, 3) := by decide +kernel
theorem dX2_make_5 : decode cX2_make 5 = .ok (.aload_n 0, 1) := by decide +kernel
theorem dX2_make_6 : decode cX2_make 6 = .ok (.iconst 0, 1) := by decide +kernel
theorem dX2_make_7 : decode cX2_make 7 = .ok (.putfield 45, 3) := by decide +kernel
theorem dX2_make_10 : decode cX2_make 10 = .ok (.aload_n 0, 1) := by decide +kernel
theorem dX2_make_11 : decode cX2_make 11 = .ok (.iconst 0, 1) := by decide +kernel
theorem dX2_make_12 : decode cX2_make 12 = .ok (.putfield 49, 3) := by decide +kernel
theorem dX2_make_15 : decode cX2_make 15 = .ok (.aload_n 0, 1) := by decide +kernel
theorem dX2_make_16 : decode cX2_make 16 = .ok (.aload_n 1, 1) := by decide +kernel
theorem dX2_make_17 : decode cX2_make 17 = .ok (.iconst 0, 1) := by decide +kernel
theorem dX2_make_18 : decode cX2_make 18 = .ok (.invokevirtual 67, 3) := by decide +kernel
theorem dX2_make_21 : decode cX2_make 21 = .ok (.putfield 73, 3) := by decide +kernel
theorem dX2_make_24 : decode cX2_make 24 = .ok (.aload_n 0, 1) := by decide +kernel
theorem dX2_make_25 : decode cX2_make 25 = .ok (.aload_n 1, 1) := by decide +kernel
theorem dX2_make_26 : decode cX2_make 26 = .ok (.iconst 1, 1) := by decide +kernel
theorem dX2_make_27 : decode cX2_make 27 = .ok (.invokevirtual 67, 3) := by decide +kernel
theorem dX2_make_30 : decode cX2_make 30 = .ok (.putfield 76, 3) := by decide +kernel
theorem dX2_make_33 : decode cX2_make 33 = .ok (.iconst 0, 1) := by decide +kernel
theorem dX2_make_34 : decode cX2_make 34 = .ok (.istore_n 2, 1) := by decide +kernel
theorem dX2_make_35 : decode cX2_make 35 = .ok (.iload_n 2, 1) := by decide +kernel
theorem dX2_make_36 : decode cX2_make 36 = .ok (.aload_n 0, 1) := by decide +kernel
theorem dX2_make_37 : decode cX2_make 37 = .ok (.getfield 38, 3) := by decide +kernel
theorem dX2_make_40 : decode cX2_make 40 = .ok (.arraylength, 1) := by decide +kernel
theorem dX2_make_41 : decode cX2_make 41 = .ok (.if_icmp .ge 16, 3) := by decide +kernel
theorem dX2_make_44 : decode cX2_make 44 = .ok (.aload_n 0, 1) := by decide +kernel
theorem dX2_make_45 : decode cX2_make 45 = .ok (.getfield 38, 3) := by decide +kernel
theorem dX2_make_48 : decode cX2_make 48 = .ok (.iload_n 2, 1) := by decide +kernel
theorem dX2_make_49 : decode cX2_make 49 = .ok (.lconst 0, 1) := by decide +kernel
theorem dX2_make_50 : decode cX2_make 50 = .ok (.lastore, 1) := by decide +kernel
theorem dX2_make_51 : decode cX2_make 51 = .ok (.iinc 2 1, 3) := by decide +kernel
theorem dX2_make_54 : decode cX2_make 54 = .ok (.goto (-19), 3) := by decide +kernel
theorem dX2_make_57 : decode cX2_make 57 = .ok (.iconst 0, 1) := by decide +kernel
theorem dX2_make_58 : decode cX2_make 58 = .ok (.istore_n 2, 1) := by decide +kernel
theorem dX2_make_59 : decode cX2_make 59 = .ok (.iload_n 2, 1) := by decide +kernel
theorem dX2_make_60 : decode cX2_make 60 = .ok (.aload_n 1, 1) := by decide +kernel
theorem dX2_make_61 : decode cX2_make 61 = .ok (.invokevirtual 79, 3) := by decide +kernel
theorem dX2_make_64 : decode cX2_make 64 = .ok (.if_icmp .ge 28, 3) := by decide +kernel
theorem dX2_make_67 : decode cX2_make 67 = .ok (.aload_n 0, 1) := by decide +kernel
theorem dX2_make_68 : decode cX2_make 68 = .ok (.aload_n 1, 1) := by decide +kernel
theorem dX2_make_69 : decode cX2_make 69 = .ok (.iload_n 2, 1) := by decide +kernel
theorem dX2_make_70 : decode cX2_make 70 = .ok (.invokevirtual 82, 3) := by decide +kernel
theorem dX2_make_73 : decode cX2_make 73 = .ok (.aload_n 1, 1) := by decide +kernel
theorem dX2_make_74 : decode cX2_make 74 = .ok (.iload_n 2, 1) := by decide +kernel
theorem dX2_make_75 : decode cX2_make 75 = .ok (.invokevirtual 85, 3) := by decide +kernel
theorem dX2_make_78 : decode cX2_make 78 = .ok (.aload_n 1, 1) := by decide +kernel
theorem dX2_make_79 : decode cX2_make 79 = .ok (.iload_n 2, 1) := by decide +kernel
theorem dX2_make_80 : decode cX2_make 80 = .ok (.invokevirtual 88, 3) := by decide +kernel
theorem dX2_make_83 : decode cX2_make 83 = .ok (.invokevirtual 91, 3) := by decide +kernel
theorem dX2_make_86 : decode cX2_make 86 = .ok (.iinc 2 1, 3) := by decide +kernel
theorem dX2_make_89 : decode cX2_make 89 = .ok (.goto (-30), 3) := by decide +kernel
theorem dX2_make_92 : decode cX2_make 92 = .ok (.aload_n 0, 1) := by decide +kernel
theorem dX2_make_93 : decode cX2_make 93 = .ok (.invokevirtual 95, 3) := by decide +kernel
theorem dX2_make_96 : decode cX2_make 96 = .ok (.aload_n 0, 1) := by decide +kernel
theorem dX2_make_97 : decode cX2_make 97 = .ok (.getfield 49, 3) := by decide +kernel
theorem dX2_make_100 : decode cX2_make 100 = .ok (.ifCond .eq 7, 3) := by decide +kernel
theorem dX2_make_103 : decode cX2_make 103 = .ok (.aload_n 0, 1) := by decide +kernel
theorem dX2_make_104 : decode cX2_make 104 = .ok (.invokevirtual 98, 3) := by decide +kernel
theorem dX2_make_107 : decode cX2_make 107 = .ok (.return_, 1) := by decide +kernel
set_option maxRecDepth 20000 in
theorem ggX2_appendClause_X4_worldsOfLiterals : GoodIn wsX2_appendClause wsX4_worldsOfLiterals := goodIn_r _ [6, 7, 8, 9, 5, 10, 11, 12, 13, 14] (by decide +kernel) (by decide +kernel)
set_option maxRecDepth 20000 in
theorem gX2_appendClause_X4_worldsOfLiterals_n101 : GoodIn wsX2_appendClause (wsX4_worldsOfLiterals) := ggX2_appendClause_X4_worldsOfLiterals
set_option maxRecDepth 20000 in
theorem ggX2_appendClause_X2_appendStep : GoodIn wsX2_appendClause wsX2_appendStep := goodIn_r _ [19, 20, 21, 22, 23, 24, 25, 26, 27, 28, 29, 30, 31, 32, 33, 34, 35, 36, 37, 38, 39, 40, 41, 42, 43] (by decide +kernel) (by decide +kernel)
set_option maxRecDepth 20000 in
theorem gX2_appendClause_X2_appendStep : GoodIn wsX2_appendClause (wsV RX2 104 RX2 yX2_appendStep wsX2_appendStep) := goodIn_app (goodIn_of _ (by decide +kernel)) ggX2_appendClause_X2_appendStep
theorem dX2_appendClause_0 : decode cX2_appendClause 0 = .ok (.iload_n 1, 1) := by decide +kernel
theorem dX2_appendClause_1 : decode cX2_appendClause 1 = .ok (.ifCond .ne 45, 3) := by decide +kernel
theorem dX2_appendClause_4 : decode cX2_appendClause 4 = .ok (.aload_n 0, 1) := by decide +kernel
theorem dX2_appendClause_5 : decode cX2_appendClause 5 = .ok (.getfield 73, 3) := by decide +kernel
theorem dX2_appendClause_8 : decode cX2_appendClause 8 = .ok (.aload_n 0, 1) := by decide +kernel
theorem dX2_appendClause_9 : decode cX2_appendClause 9 = .ok (.getfield 76, 3) := by decide +kernel
theorem dX2_appendClause_12 : decode cX2_appendClause 12 = .ok (.iand, 1) := by decide +kernel
theorem dX2_appendClause_13 : decode cX2_appendClause 13 = .ok (.istore 4, 2) := by decide +kernel
theorem dX2_appendClause_15 : decode cX2_appendClause 15 = .ok (.iload_n 2, 1) := by decide +kernel
theorem dX2_appendClause_16 : decode cX2_appendClause 16 = .ok (.iload 4, 2) := by decide +kernel
theorem dX2_appendClause_18 : decode cX2_appendClause 18 = .ok (.iand, 1) := by decide +kernel
theorem dX2_appendClause_19 : decode cX2_appendClause 19 = .ok (.iload_n 3, 1) := by decide +kernel
theorem dX2_appendClause_20 : decode cX2_appendClause 20 = .ok (.iload 4, 2) := by decide +kernel
theorem dX2_appendClause_22 : decode cX2_appendClause 22 = .ok (.iand, 1) := by decide +kernel
theorem dX2_appendClause_23 : decode cX2_appendClause 23 = .ok (.invokestatic 101, 3) := by decide +kernel
theorem dX2_appendClause_26 : decode cX2_appendClause 26 = .ok (.lstore 5, 2) := by decide +kernel
theorem dX2_appendClause_28 : decode cX2_appendClause 28 = .ok (.aload_n 0, 1) := by decide +kernel
theorem dX2_appendClause_29 : decode cX2_appendClause 29 = .ok (.iload_n 2, 1) := by decide +kernel
theorem dX2_appendClause_30 : decode cX2_appendClause 30 = .ok (.iload_n 3, 1) := by decide +kernel
theorem dX2_appendClause_31 : decode cX2_appendClause 31 = .ok (.bipush (-5), 2) := by decide +kernel
theorem dX2_appendClause_33 : decode cX2_appendClause 33 = .ok (.bipush (-5), 2) := by decide +kernel
theorem dX2_appendClause_35 : decode cX2_appendClause 35 = .ok (.bipush (-5), 2) := by decide +kernel
theorem dX2_appendClause_37 : decode cX2_appendClause 37 = .ok (.lconst 0, 1) := by decide +kernel
theorem dX2_appendClause_38 : decode cX2_appendClause 38 = .ok (.lload 5, 2) := by decide +kernel
theorem dX2_appendClause_40 : decode cX2_appendClause 40 = .ok (.invokevirtual 104, 3) := by decide +kernel
theorem dX2_appendClause_43 : decode cX2_appendClause 43 = .ok (.goto 21, 3) := by decide +kernel
theorem dX2_appendClause_46 : decode cX2_appendClause 46 = .ok (.aload_n 0, 1) := by decide +kernel
theorem dX2_appendClause_47 : decode cX2_appendClause 47 = .ok (.iload_n 2, 1) := by decide +kernel
theorem dX2_appendClause_48 : decode cX2_appendClause 48 = .ok (.iload_n 3, 1) := by decide +kernel
theorem dX2_appendClause_49 : decode cX2_appendClause 49 = .ok (.bipush (-5), 2) := by decide +kernel
theorem dX2_appendClause_51 : decode cX2_appendClause 51 = .ok (.bipush (-5), 2) := by decide +kernel
theorem dX2_appendClause_53 : decode cX2_appendClause 53 = .ok (.bipush (-5), 2) := by decide +kernel
theorem dX2_appendClause_55 : decode cX2_appendClause 55 = .ok (.ldc2_w 108, 3) := by decide +kernel
theorem dX2_appendClause_58 : decode cX2_appendClause 58 = .ok (.ldc2_w 108, 3) := by decide +kernel
theorem dX2_appendClause_61 : decode cX2_appendClause 61 = .ok (.invokevirtual 104, 3) := by decide +kernel
theorem dX2_appendClause_64 : decode cX2_appendClause 64 = .ok (.return_, 1) := by decide +kernel
set_option maxRecDepth 20000 in
theorem ggX2_resolveAll_J6_bitCount_0f7a4 : GoodIn wsX2_resolveAll wsJ6_bitCount_0f7a4 := goodIn_r _ [9, 10, 11, 12] (by decide +kernel) (by decide +kernel)
set_option maxRecDepth 20000 in
theorem gX2_resolveAll_J6_bitCount_0f7a4 : GoodIn wsX2_resolveAll (va_wsS RX2 110 yJ6_bitCount_0f7a4 wsJ6_bitCount_0f7a4) := goodIn_app (goodIn_of _ (by decide +kernel)) ggX2_resolveAll_J6_bitCount_0f7a4
set_option maxRecDepth 20000 in
theorem ggX2_resolveAll_X2_resolve : GoodIn wsX2_resolveAll wsX2_resolve := goodIn_r _ [17, 1, 4, 5, 18, 19, 20, 16, 21, 2, 22, 23, 24, 25, 26, 27, 28, 29, 3, 30, 31, 32, 33, 34, 6, 7, 8, 9, 10, 11, 12, 35, 36, 37, 38, 39, 40, 41, 42, 43, 44, 45, 46, 47, 48, 49, 50, 51, 52, 53, 54, 55, 56, 57, 58, 59, 60, 61, 62, 63, 64, 65, 66, 67, 68, 69, 70, 71, 72, 73, 74, 75] (by decide +kernel) (by decide +kernel)
set_option maxRecDepth 20000 in
theorem gX2_resolveAll_X2_resolve : GoodIn wsX2_resolveAll (wsV RX2 115 RX2 yX2_resolve wsX2_resolve) := goodIn_app (goodIn_of _ (by decide +kernel)) ggX2_resolveAll_X2_resolve
theorem dX2_resolveAll_0 : decode cX2_resolveAll 0 = .ok (.iconst 0, 1) := by decide +kernel
theorem dX2_resolveAll_1 : decode cX2_resolveAll 1 = .ok (.istore_n 1, 1) := by decide +kernel
theorem dX2_resolveAll_2 : decode cX2_resolveAll 2 = .ok (.iload_n 1, 1) := by decide +kernel
theorem dX2_resolveAll_3 : decode cX2_resolveAll 3 = .ok (.aload_n 0, 1) := by decide +kernel
theorem dX2_resolveAll_4 : decode cX2_resolveAll 4 = .ok (.getfield 41, 3) := by decide +kernel
theorem dX2_resolveAll_7 : decode cX2_resolveAll 7 = .ok (.if_icmp .ge 87, 3) := by decide +kernel
theorem dX2_resolveAll_10 : decode cX2_resolveAll 10 = .ok (.iload_n 1, 1) := by decide +kernel
theorem dX2_resolveAll_11 : decode cX2_resolveAll 11 = .ok (.sipush 400, 3) := by decide +kernel
theorem dX2_resolveAll_14 : decode cX2_resolveAll 14 = .ok (.if_icmp .ge 80, 3) := by decide +kernel
theorem dX2_resolveAll_17 : decode cX2_resolveAll 17 = .ok (.iconst 0, 1) := by decide +kernel
theorem dX2_resolveAll_18 : decode cX2_resolveAll 18 = .ok (.istore_n 2, 1) := by decide +kernel
theorem dX2_resolveAll_19 : decode cX2_resolveAll 19 = .ok (.iload_n 2, 1) := by decide +kernel
theorem dX2_resolveAll_20 : decode cX2_resolveAll 20 = .ok (.iload_n 1, 1) := by decide +kernel
theorem dX2_resolveAll_21 : decode cX2_resolveAll 21 = .ok (.if_icmp .ge 67, 3) := by decide +kernel
theorem dX2_resolveAll_24 : decode cX2_resolveAll 24 = .ok (.aload_n 0, 1) := by decide +kernel
theorem dX2_resolveAll_25 : decode cX2_resolveAll 25 = .ok (.getfield 9, 3) := by decide +kernel
theorem dX2_resolveAll_28 : decode cX2_resolveAll 28 = .ok (.iload_n 2, 1) := by decide +kernel
theorem dX2_resolveAll_29 : decode cX2_resolveAll 29 = .ok (.iaload, 1) := by decide +kernel
theorem dX2_resolveAll_30 : decode cX2_resolveAll 30 = .ok (.aload_n 0, 1) := by decide +kernel
theorem dX2_resolveAll_31 : decode cX2_resolveAll 31 = .ok (.getfield 15, 3) := by decide +kernel
theorem dX2_resolveAll_34 : decode cX2_resolveAll 34 = .ok (.iload_n 1, 1) := by decide +kernel
theorem dX2_resolveAll_35 : decode cX2_resolveAll 35 = .ok (.iaload, 1) := by decide +kernel
theorem dX2_resolveAll_36 : decode cX2_resolveAll 36 = .ok (.iand, 1) := by decide +kernel
theorem dX2_resolveAll_37 : decode cX2_resolveAll 37 = .ok (.aload_n 0, 1) := by decide +kernel
theorem dX2_resolveAll_38 : decode cX2_resolveAll 38 = .ok (.getfield 15, 3) := by decide +kernel
theorem dX2_resolveAll_41 : decode cX2_resolveAll 41 = .ok (.iload_n 2, 1) := by decide +kernel
theorem dX2_resolveAll_42 : decode cX2_resolveAll 42 = .ok (.iaload, 1) := by decide +kernel
theorem dX2_resolveAll_43 : decode cX2_resolveAll 43 = .ok (.aload_n 0, 1) := by decide +kernel
theorem dX2_resolveAll_44 : decode cX2_resolveAll 44 = .ok (.getfield 9, 3) := by decide +kernel
theorem dX2_resolveAll_47 : decode cX2_resolveAll 47 = .ok (.iload_n 1, 1) := by decide +kernel
theorem dX2_resolveAll_48 : decode cX2_resolveAll 48 = .ok (.iaload, 1) := by decide +kernel
theorem dX2_resolveAll_49 : decode cX2_resolveAll 49 = .ok (.iand, 1) := by decide +kernel
theorem dX2_resolveAll_50 : decode cX2_resolveAll 50 = .ok (.ior, 1) := by decide +kernel
theorem dX2_resolveAll_51 : decode cX2_resolveAll 51 = .ok (.istore_n 3, 1) := by decide +kernel
theorem dX2_resolveAll_52 : decode cX2_resolveAll 52 = .ok (.iload_n 3, 1) := by decide +kernel
theorem dX2_resolveAll_53 : decode cX2_resolveAll 53 = .ok (.invokestatic 110, 3) := by decide +kernel
theorem dX2_resolveAll_56 : decode cX2_resolveAll 56 = .ok (.iconst 1, 1) := by decide +kernel
theorem dX2_resolveAll_57 : decode cX2_resolveAll 57 = .ok (.if_icmp .ne 10, 3) := by decide +kernel
theorem dX2_resolveAll_60 : decode cX2_resolveAll 60 = .ok (.aload_n 0, 1) := by decide +kernel
theorem dX2_resolveAll_61 : decode cX2_resolveAll 61 = .ok (.iload_n 2, 1) := by decide +kernel
theorem dX2_resolveAll_62 : decode cX2_resolveAll 62 = .ok (.iload_n 1, 1) := by decide +kernel
theorem dX2_resolveAll_63 : decode cX2_resolveAll 63 = .ok (.iload_n 3, 1) := by decide +kernel
theorem dX2_resolveAll_64 : decode cX2_resolveAll 64 = .ok (.invokevirtual 115, 3) := by decide +kernel
theorem dX2_resolveAll_67 : decode cX2_resolveAll 67 = .ok (.aload_n 0, 1) := by decide +kernel
theorem dX2_resolveAll_68 : decode cX2_resolveAll 68 = .ok (.getfield 45, 3) := by decide +kernel
theorem dX2_resolveAll_71 : decode cX2_resolveAll 71 = .ok (.ifCond .ne 10, 3) := by decide +kernel
theorem dX2_resolveAll_74 : decode cX2_resolveAll 74 = .ok (.aload_n 0, 1) := by decide +kernel
theorem dX2_resolveAll_75 : decode cX2_resolveAll 75 = .ok (.getfield 49, 3) := by decide +kernel
theorem dX2_resolveAll_78 : decode cX2_resolveAll 78 = .ok (.ifCond .eq 4, 3) := by decide +kernel
theorem dX2_resolveAll_81 : decode cX2_resolveAll 81 = .ok (.return_, 1) := by decide +kernel
theorem dX2_resolveAll_82 : decode cX2_resolveAll 82 = .ok (.iinc 2 1, 3) := by decide +kernel
theorem dX2_resolveAll_85 : decode cX2_resolveAll 85 = .ok (.goto (-66), 3) := by decide +kernel
theorem dX2_resolveAll_88 : decode cX2_resolveAll 88 = .ok (.iinc 1 1, 3) := by decide +kernel
theorem dX2_resolveAll_91 : decode cX2_resolveAll 91 = .ok (.goto (-89), 3) := by decide +kernel
theorem dX2_resolveAll_94 : decode cX2_resolveAll 94 = .ok (.return_, 1) := by decide +kernel
set_option maxRecDepth 20000 in
theorem ggX2_resolve_X2_signsOf : GoodIn wsX2_resolve wsX2_signsOf := goodIn_r _ [8, 9, 10, 11, 12, 7, 13, 1, 58, 59, 60, 61, 62, 63, 64, 65, 66, 67, 68, 69, 70, 71] (by decide +kernel) (by decide +kernel)
set_option maxRecDepth 20000 in
theorem gX2_resolve_X2_signsOf : GoodIn wsX2_resolve (wsV RX2 118 RX2 yX2_signsOf wsX2_signsOf) := goodIn_app (goodIn_of _ (by decide +kernel)) ggX2_resolve_X2_signsOf
set_option maxRecDepth 20000 in
theorem ggX2_resolve_X2_oppositesOf : GoodIn wsX2_resolve wsX2_oppositesOf := goodIn_r _ [17, 18, 10, 11, 12, 7, 13, 1, 58, 59, 60, 61, 62, 63, 64, 65, 66, 67, 68, 69, 70, 71] (by decide +kernel) (by decide +kernel)
set_option maxRecDepth 20000 in
theorem gX2_resolve_X2_oppositesOf : GoodIn wsX2_resolve (wsV RX2 119 RX2 yX2_oppositesOf wsX2_oppositesOf) := goodIn_app (goodIn_of _ (by decide +kernel)) ggX2_resolve_X2_oppositesOf
set_option maxRecDepth 20000 in
theorem ggX2_resolve_X2_isStep : GoodIn wsX2_resolve wsX2_isStep := goodIn_r _ [22, 23, 58, 59, 60, 61, 62, 63, 64, 65, 66, 67, 68, 69, 70, 71] (by decide +kernel) (by decide +kernel)
set_option maxRecDepth 20000 in
theorem gX2_resolve_X2_isStep : GoodIn wsX2_resolve (wsV RX2 120 RX2 yX2_isStep wsX2_isStep) := goodIn_app (goodIn_of _ (by decide +kernel)) ggX2_resolve_X2_isStep
set_option maxRecDepth 20000 in
theorem ggX2_resolve_J6_bitCount_0f7a4 : GoodIn wsX2_resolve wsJ6_bitCount_0f7a4 := goodIn_r _ [27, 28, 29, 30] (by decide +kernel) (by decide +kernel)
set_option maxRecDepth 20000 in
theorem gX2_resolve_J6_bitCount_0f7a4 : GoodIn wsX2_resolve (va_wsS RX2 110 yJ6_bitCount_0f7a4 wsJ6_bitCount_0f7a4) := goodIn_app (goodIn_of _ (by decide +kernel)) ggX2_resolve_J6_bitCount_0f7a4
set_option maxRecDepth 20000 in
theorem ggX2_resolve_X2_partialClaim : GoodIn wsX2_resolve wsX2_partialClaim := goodIn_r _ [34, 35, 36, 10, 11, 12, 7, 13, 1, 58, 59, 60, 61, 62, 63, 64, 65, 66, 67, 68, 69, 70, 71] (by decide +kernel) (by decide +kernel)
set_option maxRecDepth 20000 in
theorem gX2_resolve_X2_partialClaim : GoodIn wsX2_resolve (wsV RX2 63 RX2 yX2_partialClaim wsX2_partialClaim) := goodIn_app (goodIn_of _ (by decide +kernel)) ggX2_resolve_X2_partialClaim
set_option maxRecDepth 20000 in
theorem ggX2_resolve_X2_resolvedClaim : GoodIn wsX2_resolve wsX2_resolvedClaim := goodIn_r _ [40, 41, 42, 43, 44, 45, 46, 47, 48, 49, 58, 59, 60, 61, 62, 63, 64, 65, 66, 67, 68, 69, 70, 71] (by decide +kernel) (by decide +kernel)
set_option maxRecDepth 20000 in
theorem gX2_resolve_X2_resolvedClaim : GoodIn wsX2_resolve (wsV RX2 124 RX2 yX2_resolvedClaim wsX2_resolvedClaim) := goodIn_app (goodIn_of _ (by decide +kernel)) ggX2_resolve_X2_resolvedClaim
set_option maxRecDepth 20000 in
theorem ggX2_resolve_X2_appendStep : GoodIn wsX2_resolve wsX2_appendStep := goodIn_r _ [53, 1, 9, 18, 54, 55, 56, 35, 36, 57, 23, 58, 59, 60, 61, 62, 63, 64, 65, 66, 67, 68, 69, 70, 71] (by decide +kernel) (by decide +kernel)
set_option maxRecDepth 20000 in
theorem gX2_resolve_X2_appendStep : GoodIn wsX2_resolve (wsV RX2 104 RX2 yX2_appendStep wsX2_appendStep) := goodIn_app (goodIn_of _ (by decide +kernel)) ggX2_resolve_X2_appendStep
theorem dX2_resolve_0 : decode cX2_resolve 0 = .ok (.aload_n 0, 1) := by decide +kernel
theorem dX2_resolve_1 : decode cX2_resolve 1 = .ok (.iload_n 1, 1) := by decide +kernel
theorem dX2_resolve_2 : decode cX2_resolve 2 = .ok (.invokevirtual 118, 3) := by decide +kernel
theorem dX2_resolve_5 : decode cX2_resolve 5 = .ok (.aload_n 0, 1) := by decide +kernel
theorem dX2_resolve_6 : decode cX2_resolve 6 = .ok (.iload_n 2, 1) := by decide +kernel
theorem dX2_resolve_7 : decode cX2_resolve 7 = .ok (.invokevirtual 118, 3) := by decide +kernel
theorem dX2_resolve_10 : decode cX2_resolve 10 = .ok (.ior, 1) := by decide +kernel
theorem dX2_resolve_11 : decode cX2_resolve 11 = .ok (.iload_n 3, 1) := by decide +kernel
theorem dX2_resolve_12 : decode cX2_resolve 12 = .ok (.iconst (-1), 1) := by decide +kernel
theorem dX2_resolve_13 : decode cX2_resolve 13 = .ok (.ixor, 1) := by decide +kernel
theorem dX2_resolve_14 : decode cX2_resolve 14 = .ok (.iand, 1) := by decide +kernel
theorem dX2_resolve_15 : decode cX2_resolve 15 = .ok (.istore 4, 2) := by decide +kernel
theorem dX2_resolve_17 : decode cX2_resolve 17 = .ok (.aload_n 0, 1) := by decide +kernel
theorem dX2_resolve_18 : decode cX2_resolve 18 = .ok (.iload_n 1, 1) := by decide +kernel
theorem dX2_resolve_19 : decode cX2_resolve 19 = .ok (.invokevirtual 119, 3) := by decide +kernel
theorem dX2_resolve_22 : decode cX2_resolve 22 = .ok (.aload_n 0, 1) := by decide +kernel
theorem dX2_resolve_23 : decode cX2_resolve 23 = .ok (.iload_n 2, 1) := by decide +kernel
theorem dX2_resolve_24 : decode cX2_resolve 24 = .ok (.invokevirtual 119, 3) := by decide +kernel
theorem dX2_resolve_27 : decode cX2_resolve 27 = .ok (.ior, 1) := by decide +kernel
theorem dX2_resolve_28 : decode cX2_resolve 28 = .ok (.iload_n 3, 1) := by decide +kernel
theorem dX2_resolve_29 : decode cX2_resolve 29 = .ok (.iconst (-1), 1) := by decide +kernel
theorem dX2_resolve_30 : decode cX2_resolve 30 = .ok (.ixor, 1) := by decide +kernel
theorem dX2_resolve_31 : decode cX2_resolve 31 = .ok (.iand, 1) := by decide +kernel
theorem dX2_resolve_32 : decode cX2_resolve 32 = .ok (.istore 5, 2) := by decide +kernel
theorem dX2_resolve_34 : decode cX2_resolve 34 = .ok (.aload_n 0, 1) := by decide +kernel
theorem dX2_resolve_35 : decode cX2_resolve 35 = .ok (.iload 4, 2) := by decide +kernel
theorem dX2_resolve_37 : decode cX2_resolve 37 = .ok (.iload 5, 2) := by decide +kernel
theorem dX2_resolve_39 : decode cX2_resolve 39 = .ok (.invokevirtual 120, 3) := by decide +kernel
theorem dX2_resolve_42 : decode cX2_resolve 42 = .ok (.ifCond .eq 4, 3) := by decide +kernel
theorem dX2_resolve_45 : decode cX2_resolve 45 = .ok (.return_, 1) := by decide +kernel
theorem dX2_resolve_46 : decode cX2_resolve 46 = .ok (.aload_n 0, 1) := by decide +kernel
theorem dX2_resolve_47 : decode cX2_resolve 47 = .ok (.getfield 41, 3) := by decide +kernel
theorem dX2_resolve_50 : decode cX2_resolve 50 = .ok (.sipush 400, 3) := by decide +kernel
theorem dX2_resolve_53 : decode cX2_resolve 53 = .ok (.if_icmp .lt 9, 3) := by decide +kernel
theorem dX2_resolve_56 : decode cX2_resolve 56 = .ok (.aload_n 0, 1) := by decide +kernel
theorem dX2_resolve_57 : decode cX2_resolve 57 = .ok (.iconst 1, 1) := by decide +kernel
theorem dX2_resolve_58 : decode cX2_resolve 58 = .ok (.putfield 45, 3) := by decide +kernel
theorem dX2_resolve_61 : decode cX2_resolve 61 = .ok (.return_, 1) := by decide +kernel
theorem dX2_resolve_62 : decode cX2_resolve 62 = .ok (.aload_n 0, 1) := by decide +kernel
theorem dX2_resolve_63 : decode cX2_resolve 63 = .ok (.iload_n 1, 1) := by decide +kernel
theorem dX2_resolve_64 : decode cX2_resolve 64 = .ok (.invokevirtual 118, 3) := by decide +kernel
theorem dX2_resolve_67 : decode cX2_resolve 67 = .ok (.iload_n 3, 1) := by decide +kernel
theorem dX2_resolve_68 : decode cX2_resolve 68 = .ok (.iand, 1) := by decide +kernel
theorem dX2_resolve_69 : decode cX2_resolve 69 = .ok (.ifCond .eq 7, 3) := by decide +kernel
theorem dX2_resolve_72 : decode cX2_resolve 72 = .ok (.iload_n 1, 1) := by decide +kernel
theorem dX2_resolve_73 : decode cX2_resolve 73 = .ok (.goto 4, 3) := by decide +kernel
theorem dX2_resolve_76 : decode cX2_resolve 76 = .ok (.iload_n 2, 1) := by decide +kernel
theorem dX2_resolve_77 : decode cX2_resolve 77 = .ok (.istore 6, 2) := by decide +kernel
theorem dX2_resolve_79 : decode cX2_resolve 79 = .ok (.iload 6, 2) := by decide +kernel
theorem dX2_resolve_81 : decode cX2_resolve 81 = .ok (.iload_n 1, 1) := by decide +kernel
theorem dX2_resolve_82 : decode cX2_resolve 82 = .ok (.if_icmp .ne 7, 3) := by decide +kernel
theorem dX2_resolve_85 : decode cX2_resolve 85 = .ok (.iload_n 2, 1) := by decide +kernel
theorem dX2_resolve_86 : decode cX2_resolve 86 = .ok (.goto 4, 3) := by decide +kernel
theorem dX2_resolve_89 : decode cX2_resolve 89 = .ok (.iload_n 1, 1) := by decide +kernel
theorem dX2_resolve_90 : decode cX2_resolve 90 = .ok (.istore 7, 2) := by decide +kernel
theorem dX2_resolve_92 : decode cX2_resolve 92 = .ok (.iload_n 3, 1) := by decide +kernel
theorem dX2_resolve_93 : decode cX2_resolve 93 = .ok (.iconst 1, 1) := by decide +kernel
theorem dX2_resolve_94 : decode cX2_resolve 94 = .ok (.isub, 1) := by decide +kernel
theorem dX2_resolve_95 : decode cX2_resolve 95 = .ok (.invokestatic 110, 3) := by decide +kernel
theorem dX2_resolve_98 : decode cX2_resolve 98 = .ok (.istore 8, 2) := by decide +kernel
theorem dX2_resolve_100 : decode cX2_resolve 100 = .ok (.aload_n 0, 1) := by decide +kernel
theorem dX2_resolve_101 : decode cX2_resolve 101 = .ok (.iconst 0, 1) := by decide +kernel
theorem dX2_resolve_102 : decode cX2_resolve 102 = .ok (.iload 8, 2) := by decide +kernel
theorem dX2_resolve_104 : decode cX2_resolve 104 = .ok (.aload_n 0, 1) := by decide +kernel
theorem dX2_resolve_105 : decode cX2_resolve 105 = .ok (.iload 6, 2) := by decide +kernel
theorem dX2_resolve_107 : decode cX2_resolve 107 = .ok (.iconst 0, 1) := by decide +kernel
theorem dX2_resolve_108 : decode cX2_resolve 108 = .ok (.invokevirtual 63, 3) := by decide +kernel
theorem dX2_resolve_111 : decode cX2_resolve 111 = .ok (.aload_n 0, 1) := by decide +kernel
theorem dX2_resolve_112 : decode cX2_resolve 112 = .ok (.iload 7, 2) := by decide +kernel
theorem dX2_resolve_114 : decode cX2_resolve 114 = .ok (.iconst 0, 1) := by decide +kernel
theorem dX2_resolve_115 : decode cX2_resolve 115 = .ok (.invokevirtual 63, 3) := by decide +kernel
theorem dX2_resolve_118 : decode cX2_resolve 118 = .ok (.invokevirtual 124, 3) := by decide +kernel
theorem dX2_resolve_121 : decode cX2_resolve 121 = .ok (.lstore 9, 2) := by decide +kernel
theorem dX2_resolve_123 : decode cX2_resolve 123 = .ok (.aload_n 0, 1) := by decide +kernel
theorem dX2_resolve_124 : decode cX2_resolve 124 = .ok (.iconst 1, 1) := by decide +kernel
theorem dX2_resolve_125 : decode cX2_resolve 125 = .ok (.iload 8, 2) := by decide +kernel
theorem dX2_resolve_127 : decode cX2_resolve 127 = .ok (.aload_n 0, 1) := by decide +kernel
theorem dX2_resolve_128 : decode cX2_resolve 128 = .ok (.iload 6, 2) := by decide +kernel
theorem dX2_resolve_130 : decode cX2_resolve 130 = .ok (.iconst 1, 1) := by decide +kernel
theorem dX2_resolve_131 : decode cX2_resolve 131 = .ok (.invokevirtual 63, 3) := by decide +kernel
theorem dX2_resolve_134 : decode cX2_resolve 134 = .ok (.aload_n 0, 1) := by decide +kernel
theorem dX2_resolve_135 : decode cX2_resolve 135 = .ok (.iload 7, 2) := by decide +kernel
theorem dX2_resolve_137 : decode cX2_resolve 137 = .ok (.iconst 1, 1) := by decide +kernel
theorem dX2_resolve_138 : decode cX2_resolve 138 = .ok (.invokevirtual 63, 3) := by decide +kernel
theorem dX2_resolve_141 : decode cX2_resolve 141 = .ok (.invokevirtual 124, 3) := by decide +kernel
theorem dX2_resolve_144 : decode cX2_resolve 144 = .ok (.lstore 11, 2) := by decide +kernel
theorem dX2_resolve_146 : decode cX2_resolve 146 = .ok (.aload_n 0, 1) := by decide +kernel
theorem dX2_resolve_147 : decode cX2_resolve 147 = .ok (.iload 4, 2) := by decide +kernel
theorem dX2_resolve_149 : decode cX2_resolve 149 = .ok (.iload 5, 2) := by decide +kernel
theorem dX2_resolve_151 : decode cX2_resolve 151 = .ok (.iload_n 1, 1) := by decide +kernel
theorem dX2_resolve_152 : decode cX2_resolve 152 = .ok (.iload_n 2, 1) := by decide +kernel
theorem dX2_resolve_153 : decode cX2_resolve 153 = .ok (.iload 8, 2) := by decide +kernel
theorem dX2_resolve_155 : decode cX2_resolve 155 = .ok (.lload 9, 2) := by decide +kernel
theorem dX2_resolve_157 : decode cX2_resolve 157 = .ok (.lload 11, 2) := by decide +kernel
theorem dX2_resolve_159 : decode cX2_resolve 159 = .ok (.invokevirtual 104, 3) := by decide +kernel
theorem dX2_resolve_162 : decode cX2_resolve 162 = .ok (.aload_n 0, 1) := by decide +kernel
theorem dX2_resolve_163 : decode cX2_resolve 163 = .ok (.iload 4, 2) := by decide +kernel
theorem dX2_resolve_165 : decode cX2_resolve 165 = .ok (.ifCond .ne 12, 3) := by decide +kernel
theorem dX2_resolve_168 : decode cX2_resolve 168 = .ok (.iload 5, 2) := by decide +kernel
theorem dX2_resolve_170 : decode cX2_resolve 170 = .ok (.ifCond .ne 7, 3) := by decide +kernel
theorem dX2_resolve_173 : decode cX2_resolve 173 = .ok (.iconst 1, 1) := by decide +kernel
theorem dX2_resolve_174 : decode cX2_resolve 174 = .ok (.goto 4, 3) := by decide +kernel
theorem dX2_resolve_177 : decode cX2_resolve 177 = .ok (.iconst 0, 1) := by decide +kernel
theorem dX2_resolve_178 : decode cX2_resolve 178 = .ok (.putfield 49, 3) := by decide +kernel
theorem dX2_resolve_181 : decode cX2_resolve 181 = .ok (.return_, 1) := by decide +kernel
set_option maxRecDepth 20000 in
theorem ggX2_resolvedClaim_X4_isIn : GoodIn wsX2_resolvedClaim wsX4_isIn := goodIn_r _ [6] (by decide +kernel) (by decide +kernel)
set_option maxRecDepth 20000 in
theorem gX2_resolvedClaim_X4_isIn_n128 : GoodIn wsX2_resolvedClaim (wsX4_isIn) := ggX2_resolvedClaim_X4_isIn
set_option maxRecDepth 20000 in
theorem ggX2_resolvedClaim_X4_worldsOfSign : GoodIn wsX2_resolvedClaim wsX4_worldsOfSign := goodIn_r _ [8, 9] (by decide +kernel) (by decide +kernel)
set_option maxRecDepth 20000 in
theorem gX2_resolvedClaim_X4_worldsOfSign_n131 : GoodIn wsX2_resolvedClaim (wsX4_worldsOfSign) := ggX2_resolvedClaim_X4_worldsOfSign
theorem dX2_resolvedClaim_0 : decode cX2_resolvedClaim 0 = .ok (.iload_n 2, 1) := by decide +kernel
theorem dX2_resolvedClaim_1 : decode cX2_resolvedClaim 1 = .ok (.aload_n 0, 1) := by decide +kernel
theorem dX2_resolvedClaim_2 : decode cX2_resolvedClaim 2 = .ok (.getfield 76, 3) := by decide +kernel
theorem dX2_resolvedClaim_5 : decode cX2_resolvedClaim 5 = .ok (.invokestatic 128, 3) := by decide +kernel
theorem dX2_resolvedClaim_8 : decode cX2_resolvedClaim 8 = .ok (.ifCond .ne 8, 3) := by decide +kernel
theorem dX2_resolvedClaim_11 : decode cX2_resolvedClaim 11 = .ok (.lload_n 3, 1) := by decide +kernel
theorem dX2_resolvedClaim_12 : decode cX2_resolvedClaim 12 = .ok (.lload 5, 2) := by decide +kernel
theorem dX2_resolvedClaim_14 : decode cX2_resolvedClaim 14 = .ok (.lor, 1) := by decide +kernel
theorem dX2_resolvedClaim_15 : decode cX2_resolvedClaim 15 = .ok (.lreturn, 1) := by decide +kernel
theorem dX2_resolvedClaim_16 : decode cX2_resolvedClaim 16 = .ok (.iload_n 1, 1) := by decide +kernel
theorem dX2_resolvedClaim_17 : decode cX2_resolvedClaim 17 = .ok (.iconst 1, 1) := by decide +kernel
theorem dX2_resolvedClaim_18 : decode cX2_resolvedClaim 18 = .ok (.if_icmp .eq 14, 3) := by decide +kernel
theorem dX2_resolvedClaim_21 : decode cX2_resolvedClaim 21 = .ok (.iload_n 2, 1) := by decide +kernel
theorem dX2_resolvedClaim_22 : decode cX2_resolvedClaim 22 = .ok (.aload_n 0, 1) := by decide +kernel
theorem dX2_resolvedClaim_23 : decode cX2_resolvedClaim 23 = .ok (.getfield 73, 3) := by decide +kernel
theorem dX2_resolvedClaim_26 : decode cX2_resolvedClaim 26 = .ok (.invokestatic 128, 3) := by decide +kernel
theorem dX2_resolvedClaim_29 : decode cX2_resolvedClaim 29 = .ok (.ifCond .ne 8, 3) := by decide +kernel
theorem dX2_resolvedClaim_32 : decode cX2_resolvedClaim 32 = .ok (.lload_n 3, 1) := by decide +kernel
theorem dX2_resolvedClaim_33 : decode cX2_resolvedClaim 33 = .ok (.lload 5, 2) := by decide +kernel
theorem dX2_resolvedClaim_35 : decode cX2_resolvedClaim 35 = .ok (.land, 1) := by decide +kernel
theorem dX2_resolvedClaim_36 : decode cX2_resolvedClaim 36 = .ok (.lreturn, 1) := by decide +kernel
theorem dX2_resolvedClaim_37 : decode cX2_resolvedClaim 37 = .ok (.iload_n 2, 1) := by decide +kernel
theorem dX2_resolvedClaim_38 : decode cX2_resolvedClaim 38 = .ok (.invokestatic 131, 3) := by decide +kernel
theorem dX2_resolvedClaim_41 : decode cX2_resolvedClaim 41 = .ok (.lstore 7, 2) := by decide +kernel
theorem dX2_resolvedClaim_43 : decode cX2_resolvedClaim 43 = .ok (.lload 7, 2) := by decide +kernel
theorem dX2_resolvedClaim_45 : decode cX2_resolvedClaim 45 = .ok (.lload 5, 2) := by decide +kernel
theorem dX2_resolvedClaim_47 : decode cX2_resolvedClaim 47 = .ok (.land, 1) := by decide +kernel
theorem dX2_resolvedClaim_48 : decode cX2_resolvedClaim 48 = .ok (.lload 7, 2) := by decide +kernel
theorem dX2_resolvedClaim_50 : decode cX2_resolvedClaim 50 = .ok (.ldc2_w 108, 3) := by decide +kernel
theorem dX2_resolvedClaim_53 : decode cX2_resolvedClaim 53 = .ok (.lxor, 1) := by decide +kernel
theorem dX2_resolvedClaim_54 : decode cX2_resolvedClaim 54 = .ok (.lload_n 3, 1) := by decide +kernel
theorem dX2_resolvedClaim_55 : decode cX2_resolvedClaim 55 = .ok (.land, 1) := by decide +kernel
theorem dX2_resolvedClaim_56 : decode cX2_resolvedClaim 56 = .ok (.lor, 1) := by decide +kernel
theorem dX2_resolvedClaim_57 : decode cX2_resolvedClaim 57 = .ok (.lreturn, 1) := by decide +kernel
theorem dX2_isStep_0 : decode cX2_isStep 0 = .ok (.aload_n 0, 1) := by decide +kernel
theorem dX2_isStep_1 : decode cX2_isStep 1 = .ok (.getfield 38, 3) := by decide +kernel
theorem dX2_isStep_4 : decode cX2_isStep 4 = .ok (.iload_n 1, 1) := by decide +kernel
theorem dX2_isStep_5 : decode cX2_isStep 5 = .ok (.bipush 63, 2) := by decide +kernel
theorem dX2_isStep_7 : decode cX2_isStep 7 = .ok (.iand, 1) := by decide +kernel
theorem dX2_isStep_8 : decode cX2_isStep 8 = .ok (.laload, 1) := by decide +kernel
theorem dX2_isStep_9 : decode cX2_isStep 9 = .ok (.iload_n 2, 1) := by decide +kernel
theorem dX2_isStep_10 : decode cX2_isStep 10 = .ok (.lushr, 1) := by decide +kernel
theorem dX2_isStep_11 : decode cX2_isStep 11 = .ok (.lconst 1, 1) := by decide +kernel
theorem dX2_isStep_12 : decode cX2_isStep 12 = .ok (.land, 1) := by decide +kernel
theorem dX2_isStep_13 : decode cX2_isStep 13 = .ok (.lconst 0, 1) := by decide +kernel
theorem dX2_isStep_14 : decode cX2_isStep 14 = .ok (.lcmp, 1) := by decide +kernel
theorem dX2_isStep_15 : decode cX2_isStep 15 = .ok (.ifCond .eq 7, 3) := by decide +kernel
theorem dX2_isStep_18 : decode cX2_isStep 18 = .ok (.iconst 1, 1) := by decide +kernel
theorem dX2_isStep_19 : decode cX2_isStep 19 = .ok (.goto 4, 3) := by decide +kernel
theorem dX2_isStep_22 : decode cX2_isStep 22 = .ok (.iconst 0, 1) := by decide +kernel
theorem dX2_isStep_23 : decode cX2_isStep 23 = .ok (.ireturn, 1) := by decide +kernel
theorem dX2_appendStep_0 : decode cX2_appendStep 0 = .ok (.aload_n 0, 1) := by decide +kernel
theorem dX2_appendStep_1 : decode cX2_appendStep 1 = .ok (.getfield 41, 3) := by decide +kernel
theorem dX2_appendStep_4 : decode cX2_appendStep 4 = .ok (.ifCond .lt 13, 3) := by decide +kernel
theorem dX2_appendStep_7 : decode cX2_appendStep 7 = .ok (.aload_n 0, 1) := by decide +kernel
theorem dX2_appendStep_8 : decode cX2_appendStep 8 = .ok (.getfield 41, 3) := by decide +kernel
theorem dX2_appendStep_11 : decode cX2_appendStep 11 = .ok (.sipush 400, 3) := by decide +kernel
theorem dX2_appendStep_14 : decode cX2_appendStep 14 = .ok (.if_icmp .lt 4, 3) := by decide +kernel
theorem dX2_appendStep_17 : decode cX2_appendStep 17 = .ok (.return_, 1) := by decide +kernel
theorem dX2_appendStep_18 : decode cX2_appendStep 18 = .ok (.aload_n 0, 1) := by decide +kernel
theorem dX2_appendStep_19 : decode cX2_appendStep 19 = .ok (.getfield 9, 3) := by decide +kernel
theorem dX2_appendStep_22 : decode cX2_appendStep 22 = .ok (.aload_n 0, 1) := by decide +kernel
theorem dX2_appendStep_23 : decode cX2_appendStep 23 = .ok (.getfield 41, 3) := by decide +kernel
theorem dX2_appendStep_26 : decode cX2_appendStep 26 = .ok (.iload_n 1, 1) := by decide +kernel
theorem dX2_appendStep_27 : decode cX2_appendStep 27 = .ok (.iastore, 1) := by decide +kernel
theorem dX2_appendStep_28 : decode cX2_appendStep 28 = .ok (.aload_n 0, 1) := by decide +kernel
theorem dX2_appendStep_29 : decode cX2_appendStep 29 = .ok (.getfield 15, 3) := by decide +kernel
theorem dX2_appendStep_32 : decode cX2_appendStep 32 = .ok (.aload_n 0, 1) := by decide +kernel
theorem dX2_appendStep_33 : decode cX2_appendStep 33 = .ok (.getfield 41, 3) := by decide +kernel
theorem dX2_appendStep_36 : decode cX2_appendStep 36 = .ok (.iload_n 2, 1) := by decide +kernel
theorem dX2_appendStep_37 : decode cX2_appendStep 37 = .ok (.iastore, 1) := by decide +kernel
theorem dX2_appendStep_38 : decode cX2_appendStep 38 = .ok (.aload_n 0, 1) := by decide +kernel
theorem dX2_appendStep_39 : decode cX2_appendStep 39 = .ok (.getfield 18, 3) := by decide +kernel
theorem dX2_appendStep_42 : decode cX2_appendStep 42 = .ok (.aload_n 0, 1) := by decide +kernel
theorem dX2_appendStep_43 : decode cX2_appendStep 43 = .ok (.getfield 41, 3) := by decide +kernel
theorem dX2_appendStep_46 : decode cX2_appendStep 46 = .ok (.iload_n 3, 1) := by decide +kernel
theorem dX2_appendStep_47 : decode cX2_appendStep 47 = .ok (.iastore, 1) := by decide +kernel
theorem dX2_appendStep_48 : decode cX2_appendStep 48 = .ok (.aload_n 0, 1) := by decide +kernel
theorem dX2_appendStep_49 : decode cX2_appendStep 49 = .ok (.getfield 21, 3) := by decide +kernel
theorem dX2_appendStep_52 : decode cX2_appendStep 52 = .ok (.aload_n 0, 1) := by decide +kernel
theorem dX2_appendStep_53 : decode cX2_appendStep 53 = .ok (.getfield 41, 3) := by decide +kernel
theorem dX2_appendStep_56 : decode cX2_appendStep 56 = .ok (.iload 4, 2) := by decide +kernel
theorem dX2_appendStep_58 : decode cX2_appendStep 58 = .ok (.iastore, 1) := by decide +kernel
theorem dX2_appendStep_59 : decode cX2_appendStep 59 = .ok (.aload_n 0, 1) := by decide +kernel
theorem dX2_appendStep_60 : decode cX2_appendStep 60 = .ok (.getfield 24, 3) := by decide +kernel
theorem dX2_appendStep_63 : decode cX2_appendStep 63 = .ok (.aload_n 0, 1) := by decide +kernel
theorem dX2_appendStep_64 : decode cX2_appendStep 64 = .ok (.getfield 41, 3) := by decide +kernel
theorem dX2_appendStep_67 : decode cX2_appendStep 67 = .ok (.iload 5, 2) := by decide +kernel
theorem dX2_appendStep_69 : decode cX2_appendStep 69 = .ok (.iastore, 1) := by decide +kernel
theorem dX2_appendStep_70 : decode cX2_appendStep 70 = .ok (.aload_n 0, 1) := by decide +kernel
theorem dX2_appendStep_71 : decode cX2_appendStep 71 = .ok (.getfield 27, 3) := by decide +kernel
theorem dX2_appendStep_74 : decode cX2_appendStep 74 = .ok (.aload_n 0, 1) := by decide +kernel
theorem dX2_appendStep_75 : decode cX2_appendStep 75 = .ok (.getfield 41, 3) := by decide +kernel
theorem dX2_appendStep_78 : decode cX2_appendStep 78 = .ok (.lload 6, 2) := by decide +kernel
theorem dX2_appendStep_80 : decode cX2_appendStep 80 = .ok (.lastore, 1) := by decide +kernel
theorem dX2_appendStep_81 : decode cX2_appendStep 81 = .ok (.aload_n 0, 1) := by decide +kernel
theorem dX2_appendStep_82 : decode cX2_appendStep 82 = .ok (.getfield 31, 3) := by decide +kernel
theorem dX2_appendStep_85 : decode cX2_appendStep 85 = .ok (.aload_n 0, 1) := by decide +kernel
theorem dX2_appendStep_86 : decode cX2_appendStep 86 = .ok (.getfield 41, 3) := by decide +kernel
theorem dX2_appendStep_89 : decode cX2_appendStep 89 = .ok (.lload 8, 2) := by decide +kernel
theorem dX2_appendStep_91 : decode cX2_appendStep 91 = .ok (.lastore, 1) := by decide +kernel
theorem dX2_appendStep_92 : decode cX2_appendStep 92 = .ok (.aload_n 0, 1) := by decide +kernel
theorem dX2_appendStep_93 : decode cX2_appendStep 93 = .ok (.getfield 34, 3) := by decide +kernel
theorem dX2_appendStep_96 : decode cX2_appendStep 96 = .ok (.aload_n 0, 1) := by decide +kernel
theorem dX2_appendStep_97 : decode cX2_appendStep 97 = .ok (.getfield 41, 3) := by decide +kernel
theorem dX2_appendStep_100 : decode cX2_appendStep 100 = .ok (.iconst 0, 1) := by decide +kernel
theorem dX2_appendStep_101 : decode cX2_appendStep 101 = .ok (.bastore, 1) := by decide +kernel
theorem dX2_appendStep_102 : decode cX2_appendStep 102 = .ok (.aload_n 0, 1) := by decide +kernel
theorem dX2_appendStep_103 : decode cX2_appendStep 103 = .ok (.getfield 38, 3) := by decide +kernel
theorem dX2_appendStep_106 : decode cX2_appendStep 106 = .ok (.iload_n 1, 1) := by decide +kernel
theorem dX2_appendStep_107 : decode cX2_appendStep 107 = .ok (.bipush 63, 2) := by decide +kernel
theorem dX2_appendStep_109 : decode cX2_appendStep 109 = .ok (.iand, 1) := by decide +kernel
theorem dX2_appendStep_110 : decode cX2_appendStep 110 = .ok (.dup2, 1) := by decide +kernel
theorem dX2_appendStep_111 : decode cX2_appendStep 111 = .ok (.laload, 1) := by decide +kernel
theorem dX2_appendStep_112 : decode cX2_appendStep 112 = .ok (.lconst 1, 1) := by decide +kernel
theorem dX2_appendStep_113 : decode cX2_appendStep 113 = .ok (.iload_n 2, 1) := by decide +kernel
theorem dX2_appendStep_114 : decode cX2_appendStep 114 = .ok (.lshl, 1) := by decide +kernel
theorem dX2_appendStep_115 : decode cX2_appendStep 115 = .ok (.lor, 1) := by decide +kernel
theorem dX2_appendStep_116 : decode cX2_appendStep 116 = .ok (.lastore, 1) := by decide +kernel
theorem dX2_appendStep_117 : decode cX2_appendStep 117 = .ok (.aload_n 0, 1) := by decide +kernel
theorem dX2_appendStep_118 : decode cX2_appendStep 118 = .ok (.dup, 1) := by decide +kernel
theorem dX2_appendStep_119 : decode cX2_appendStep 119 = .ok (.getfield 41, 3) := by decide +kernel
theorem dX2_appendStep_122 : decode cX2_appendStep 122 = .ok (.iconst 1, 1) := by decide +kernel
theorem dX2_appendStep_123 : decode cX2_appendStep 123 = .ok (.iadd, 1) := by decide +kernel
theorem dX2_appendStep_124 : decode cX2_appendStep 124 = .ok (.putfield 41, 3) := by decide +kernel
theorem dX2_appendStep_127 : decode cX2_appendStep 127 = .ok (.return_, 1) := by decide +kernel
set_option maxRecDepth 20000 in
theorem ggX2_markNeededSteps_X2_markNeeded : GoodIn wsX2_markNeededSteps wsX2_markNeeded := goodIn_r _ [6, 7, 8, 9, 10, 5, 11, 1, 26, 27, 28, 29, 30, 31, 32, 33, 34, 35, 36, 37, 38, 39] (by decide +kernel) (by decide +kernel)
set_option maxRecDepth 20000 in
theorem gX2_markNeededSteps_X2_markNeeded : GoodIn wsX2_markNeededSteps (wsV RX2 135 RX2 yX2_markNeeded wsX2_markNeeded) := goodIn_app (goodIn_of _ (by decide +kernel)) ggX2_markNeededSteps_X2_markNeeded
set_option maxRecDepth 20000 in
theorem ggX2_markNeededSteps_X2_isNeeded : GoodIn wsX2_markNeededSteps wsX2_isNeeded := goodIn_r _ [15, 7, 8, 9, 10, 5, 11, 1, 26, 27, 28, 29, 30, 31, 32, 33, 34, 35, 36, 37, 38, 39] (by decide +kernel) (by decide +kernel)
set_option maxRecDepth 20000 in
theorem gX2_markNeededSteps_X2_isNeeded : GoodIn wsX2_markNeededSteps (wsV RX2 56 RX2 yX2_isNeeded wsX2_isNeeded) := goodIn_app (goodIn_of _ (by decide +kernel)) ggX2_markNeededSteps_X2_isNeeded
set_option maxRecDepth 20000 in
theorem ggX2_markNeededSteps_X2_firstParentOf : GoodIn wsX2_markNeededSteps wsX2_firstParentOf := goodIn_r _ [19, 20, 8, 9, 10, 5, 11, 1, 26, 27, 28, 29, 30, 31, 32, 33, 34, 35, 36, 37, 38, 39] (by decide +kernel) (by decide +kernel)
set_option maxRecDepth 20000 in
theorem gX2_markNeededSteps_X2_firstParentOf : GoodIn wsX2_markNeededSteps (wsV RX2 139 RX2 yX2_firstParentOf wsX2_firstParentOf) := goodIn_app (goodIn_of _ (by decide +kernel)) ggX2_markNeededSteps_X2_firstParentOf
set_option maxRecDepth 20000 in
theorem ggX2_markNeededSteps_X2_secondParentOf : GoodIn wsX2_markNeededSteps wsX2_secondParentOf := goodIn_r _ [24, 25, 8, 9, 10, 5, 11, 1, 26, 27, 28, 29, 30, 31, 32, 33, 34, 35, 36, 37, 38, 39] (by decide +kernel) (by decide +kernel)
set_option maxRecDepth 20000 in
theorem gX2_markNeededSteps_X2_secondParentOf : GoodIn wsX2_markNeededSteps (wsV RX2 142 RX2 yX2_secondParentOf wsX2_secondParentOf) := goodIn_app (goodIn_of _ (by decide +kernel)) ggX2_markNeededSteps_X2_secondParentOf
theorem dX2_markNeededSteps_0 : decode cX2_markNeededSteps 0 = .ok (.aload_n 0, 1) := by decide +kernel
theorem dX2_markNeededSteps_1 : decode cX2_markNeededSteps 1 = .ok (.aload_n 0, 1) := by decide +kernel
theorem dX2_markNeededSteps_2 : decode cX2_markNeededSteps 2 = .ok (.getfield 41, 3) := by decide +kernel
theorem dX2_markNeededSteps_5 : decode cX2_markNeededSteps 5 = .ok (.iconst 1, 1) := by decide +kernel
theorem dX2_markNeededSteps_6 : decode cX2_markNeededSteps 6 = .ok (.isub, 1) := by decide +kernel
theorem dX2_markNeededSteps_7 : decode cX2_markNeededSteps 7 = .ok (.invokevirtual 135, 3) := by decide +kernel
theorem dX2_markNeededSteps_10 : decode cX2_markNeededSteps 10 = .ok (.aload_n 0, 1) := by decide +kernel
theorem dX2_markNeededSteps_11 : decode cX2_markNeededSteps 11 = .ok (.getfield 41, 3) := by decide +kernel
theorem dX2_markNeededSteps_14 : decode cX2_markNeededSteps 14 = .ok (.iconst 1, 1) := by decide +kernel
theorem dX2_markNeededSteps_15 : decode cX2_markNeededSteps 15 = .ok (.isub, 1) := by decide +kernel
theorem dX2_markNeededSteps_16 : decode cX2_markNeededSteps 16 = .ok (.istore_n 1, 1) := by decide +kernel
theorem dX2_markNeededSteps_17 : decode cX2_markNeededSteps 17 = .ok (.iload_n 1, 1) := by decide +kernel
theorem dX2_markNeededSteps_18 : decode cX2_markNeededSteps 18 = .ok (.ifCond .lt 35, 3) := by decide +kernel
theorem dX2_markNeededSteps_21 : decode cX2_markNeededSteps 21 = .ok (.aload_n 0, 1) := by decide +kernel
theorem dX2_markNeededSteps_22 : decode cX2_markNeededSteps 22 = .ok (.iload_n 1, 1) := by decide +kernel
theorem dX2_markNeededSteps_23 : decode cX2_markNeededSteps 23 = .ok (.invokevirtual 56, 3) := by decide +kernel
theorem dX2_markNeededSteps_26 : decode cX2_markNeededSteps 26 = .ok (.ifCond .eq 21, 3) := by decide +kernel
theorem dX2_markNeededSteps_29 : decode cX2_markNeededSteps 29 = .ok (.aload_n 0, 1) := by decide +kernel
theorem dX2_markNeededSteps_30 : decode cX2_markNeededSteps 30 = .ok (.aload_n 0, 1) := by decide +kernel
theorem dX2_markNeededSteps_31 : decode cX2_markNeededSteps 31 = .ok (.iload_n 1, 1) := by decide +kernel
theorem dX2_markNeededSteps_32 : decode cX2_markNeededSteps 32 = .ok (.invokevirtual 139, 3) := by decide +kernel
theorem dX2_markNeededSteps_35 : decode cX2_markNeededSteps 35 = .ok (.invokevirtual 135, 3) := by decide +kernel
theorem dX2_markNeededSteps_38 : decode cX2_markNeededSteps 38 = .ok (.aload_n 0, 1) := by decide +kernel
theorem dX2_markNeededSteps_39 : decode cX2_markNeededSteps 39 = .ok (.aload_n 0, 1) := by decide +kernel
theorem dX2_markNeededSteps_40 : decode cX2_markNeededSteps 40 = .ok (.iload_n 1, 1) := by decide +kernel
theorem dX2_markNeededSteps_41 : decode cX2_markNeededSteps 41 = .ok (.invokevirtual 142, 3) := by decide +kernel
theorem dX2_markNeededSteps_44 : decode cX2_markNeededSteps 44 = .ok (.invokevirtual 135, 3) := by decide +kernel
theorem dX2_markNeededSteps_47 : decode cX2_markNeededSteps 47 = .ok (.iinc 1 (-1), 3) := by decide +kernel
theorem dX2_markNeededSteps_50 : decode cX2_markNeededSteps 50 = .ok (.goto (-33), 3) := by decide +kernel
theorem dX2_markNeededSteps_53 : decode cX2_markNeededSteps 53 = .ok (.return_, 1) := by decide +kernel
set_option maxRecDepth 20000 in
theorem ggX2_markNeeded_X2_has : GoodIn wsX2_markNeeded wsX2_has := goodIn_r _ [6, 7, 8, 9, 10, 11, 12, 13, 14, 15, 16, 17, 18, 19, 20, 21] (by decide +kernel) (by decide +kernel)
set_option maxRecDepth 20000 in
theorem gX2_markNeeded_X2_has : GoodIn wsX2_markNeeded (wsV RX2 52 RX2 yX2_has wsX2_has) := goodIn_app (goodIn_of _ (by decide +kernel)) ggX2_markNeeded_X2_has
theorem dX2_markNeeded_0 : decode cX2_markNeeded 0 = .ok (.aload_n 0, 1) := by decide +kernel
theorem dX2_markNeeded_1 : decode cX2_markNeeded 1 = .ok (.iload_n 1, 1) := by decide +kernel
theorem dX2_markNeeded_2 : decode cX2_markNeeded 2 = .ok (.invokevirtual 52, 3) := by decide +kernel
theorem dX2_markNeeded_5 : decode cX2_markNeeded 5 = .ok (.ifCond .eq 10, 3) := by decide +kernel
theorem dX2_markNeeded_8 : decode cX2_markNeeded 8 = .ok (.aload_n 0, 1) := by decide +kernel
theorem dX2_markNeeded_9 : decode cX2_markNeeded 9 = .ok (.getfield 34, 3) := by decide +kernel
theorem dX2_markNeeded_12 : decode cX2_markNeeded 12 = .ok (.iload_n 1, 1) := by decide +kernel
theorem dX2_markNeeded_13 : decode cX2_markNeeded 13 = .ok (.iconst 1, 1) := by decide +kernel
theorem dX2_markNeeded_14 : decode cX2_markNeeded 14 = .ok (.bastore, 1) := by decide +kernel
theorem dX2_markNeeded_15 : decode cX2_markNeeded 15 = .ok (.return_, 1) := by decide +kernel
theorem dX3_init_0 : decode cX3_init 0 = .ok (.aload_n 0, 1) := by decide +kernel
theorem dX3_init_1 : decode cX3_init 1 = .ok (.invokespecial 3, 3) := by decide +kernel
theorem dX3_init_4 : decode cX3_init 4 = .ok (.aload_n 0, 1) := by decide +kernel
theorem dX3_init_5 : decode cX3_init 5 = .ok (.bipush 60, 2) := by decide +kernel
theorem dX3_init_7 : decode cX3_init 7 = .ok (.newarray .char, 2) := by decide +kernel
theorem dX3_init_9 : decode cX3_init 9 = .ok (.putfield 9, 3) := by decide +kernel
theorem dX3_init_12 : decode cX3_init 12 = .ok (.aload_n 0, 1) := by decide +kernel
theorem dX3_init_13 : decode cX3_init 13 = .ok (.iconst 0, 1) := by decide +kernel
theorem dX3_init_14 : decode cX3_init 14 = .ok (.putfield 15, 3) := by decide +kernel
theorem dX3_init_17 : decode cX3_init 17 = .ok (.return_, 1) := by decide +kernel
theorem dX3_length_0 : decode cX3_length 0 = .ok (.aload_n 0, 1) := by decide +kernel
theorem dX3_length_1 : decode cX3_length 1 = .ok (.getfield 15, 3) := by decide +kernel
theorem dX3_length_4 : decode cX3_length 4 = .ok (.ireturn, 1) := by decide +kernel
theorem dX3_clear_0 : decode cX3_clear 0 = .ok (.aload_n 0, 1) := by decide +kernel
theorem dX3_clear_1 : decode cX3_clear 1 = .ok (.iconst 0, 1) := by decide +kernel
theorem dX3_clear_2 : decode cX3_clear 2 = .ok (.putfield 15, 3) := by decide +kernel
theorem dX3_clear_5 : decode cX3_clear 5 = .ok (.return_, 1) := by decide +kernel
theorem dX3_append_0 : decode cX3_append 0 = .ok (.aload_n 0, 1) := by decide +kernel
theorem dX3_append_1 : decode cX3_append 1 = .ok (.getfield 15, 3) := by decide +kernel
theorem dX3_append_4 : decode cX3_append 4 = .ok (.ifCond .lt 15, 3) := by decide +kernel
theorem dX3_append_7 : decode cX3_append 7 = .ok (.aload_n 0, 1) := by decide +kernel
theorem dX3_append_8 : decode cX3_append 8 = .ok (.getfield 15, 3) := by decide +kernel
theorem dX3_append_11 : decode cX3_append 11 = .ok (.aload_n 0, 1) := by decide +kernel
theorem dX3_append_12 : decode cX3_append 12 = .ok (.getfield 9, 3) := by decide +kernel
theorem dX3_append_15 : decode cX3_append 15 = .ok (.arraylength, 1) := by decide +kernel
theorem dX3_append_16 : decode cX3_append 16 = .ok (.if_icmp .lt 5, 3) := by decide +kernel
theorem dX3_append_19 : decode cX3_append 19 = .ok (.iconst 0, 1) := by decide +kernel
theorem dX3_append_20 : decode cX3_append 20 = .ok (.ireturn, 1) := by decide +kernel
theorem dX3_append_21 : decode cX3_append 21 = .ok (.aload_n 0, 1) := by decide +kernel
theorem dX3_append_22 : decode cX3_append 22 = .ok (.getfield 9, 3) := by decide +kernel
theorem dX3_append_25 : decode cX3_append 25 = .ok (.aload_n 0, 1) := by decide +kernel
theorem dX3_append_26 : decode cX3_append 26 = .ok (.getfield 15, 3) := by decide +kernel
theorem dX3_append_29 : decode cX3_append 29 = .ok (.iload_n 1, 1) := by decide +kernel
theorem dX3_append_30 : decode cX3_append 30 = .ok (.sipush 255, 3) := by decide +kernel
theorem dX3_append_33 : decode cX3_append 33 = .ok (.if_icmp .gt 7, 3) := by decide +kernel
theorem dX3_append_36 : decode cX3_append 36 = .ok (.iload_n 1, 1) := by decide +kernel
theorem dX3_append_37 : decode cX3_append 37 = .ok (.goto 5, 3) := by decide +kernel
theorem dX3_append_40 : decode cX3_append 40 = .ok (.bipush 63, 2) := by decide +kernel
theorem dX3_append_42 : decode cX3_append 42 = .ok (.castore, 1) := by decide +kernel
theorem dX3_append_43 : decode cX3_append 43 = .ok (.aload_n 0, 1) := by decide +kernel
theorem dX3_append_44 : decode cX3_append 44 = .ok (.dup, 1) := by decide +kernel
theorem dX3_append_45 : decode cX3_append 45 = .ok (.getfield 15, 3) := by decide +kernel
theorem dX3_append_48 : decode cX3_append 48 = .ok (.iconst 1, 1) := by decide +kernel
theorem dX3_append_49 : decode cX3_append 49 = .ok (.iadd, 1) := by decide +kernel
theorem dX3_append_50 : decode cX3_append 50 = .ok (.putfield 15, 3) := by decide +kernel
theorem dX3_append_53 : decode cX3_append 53 = .ok (.iconst 1, 1) := by decide +kernel
theorem dX3_append_54 : decode cX3_append 54 = .ok (.ireturn, 1) := by decide +kernel
set_option maxRecDepth 20000 in
theorem ggX3_readInto_X0_clear : GoodIn wsX3_readInto wsX0_clear := goodIn_r _ [8, 9, 53, 54, 55, 56] (by decide +kernel) (by decide +kernel)
set_option maxRecDepth 20000 in
theorem gX3_readInto_X0_clear : GoodIn wsX3_readInto (wsV RX3 19 RX0 yX0_clear wsX0_clear) := goodIn_app (goodIn_of _ (by decide +kernel)) ggX3_readInto_X0_clear
set_option maxRecDepth 20000 in
theorem ggX3_readInto_X3_beginClause : GoodIn wsX3_readInto wsX3_beginClause := goodIn_r _ [14, 15, 16, 17, 18, 46, 47, 48, 49, 50, 51, 52] (by decide +kernel) (by decide +kernel)
set_option maxRecDepth 20000 in
theorem gX3_readInto_X3_beginClause : GoodIn wsX3_readInto (wsV RX3 27 RX3 yX3_beginClause wsX3_beginClause) := goodIn_app (goodIn_of _ (by decide +kernel)) ggX3_readInto_X3_beginClause
set_option maxRecDepth 20000 in
theorem ggX3_readInto_X3_reads : GoodIn wsX3_readInto wsX3_reads := goodIn_r _ [22, 23, 24, 25, 13, 26, 18, 17, 27, 28, 29, 30, 1, 15, 16, 31, 32, 33, 7, 34, 9, 35, 36, 37, 10, 11, 12, 14, 38, 39, 40, 41, 42, 43, 44, 45, 46, 47, 48, 49, 50, 51, 52, 53, 54, 55, 56] (by decide +kernel) (by decide +kernel)
set_option maxRecDepth 20000 in
theorem gX3_readInto_X3_reads : GoodIn wsX3_readInto (wsV RX3 30 RX3 yX3_reads wsX3_reads) := goodIn_app (goodIn_of _ (by decide +kernel)) ggX3_readInto_X3_reads
set_option maxRecDepth 20000 in
theorem ggX3_readInto_X3_endsClause : GoodIn wsX3_readInto wsX3_endsClause := goodIn_r _ [30, 18, 17, 1, 15, 16, 31, 32, 33, 7, 34, 9, 35, 36, 37, 10, 11, 12, 13, 14, 46, 47, 48, 49, 50, 51, 52, 53, 54, 55, 56] (by decide +kernel) (by decide +kernel)
set_option maxRecDepth 20000 in
theorem gX3_readInto_X3_endsClause : GoodIn wsX3_readInto (wsV RX3 34 RX3 yX3_endsClause wsX3_endsClause) := goodIn_app (goodIn_of _ (by decide +kernel)) ggX3_readInto_X3_endsClause
theorem dX3_readInto_0 : decode cX3_readInto 0 = .ok (.aload_n 1, 1) := by decide +kernel
theorem dX3_readInto_1 : decode cX3_readInto 1 = .ok (.invokevirtual 19, 3) := by decide +kernel
theorem dX3_readInto_4 : decode cX3_readInto 4 = .ok (.aload_n 0, 1) := by decide +kernel
theorem dX3_readInto_5 : decode cX3_readInto 5 = .ok (.iconst 0, 1) := by decide +kernel
theorem dX3_readInto_6 : decode cX3_readInto 6 = .ok (.putfield 24, 3) := by decide +kernel
theorem dX3_readInto_9 : decode cX3_readInto 9 = .ok (.aload_n 0, 1) := by decide +kernel
theorem dX3_readInto_10 : decode cX3_readInto 10 = .ok (.invokevirtual 27, 3) := by decide +kernel
theorem dX3_readInto_13 : decode cX3_readInto 13 = .ok (.iconst 0, 1) := by decide +kernel
theorem dX3_readInto_14 : decode cX3_readInto 14 = .ok (.istore_n 2, 1) := by decide +kernel
theorem dX3_readInto_15 : decode cX3_readInto 15 = .ok (.iload_n 2, 1) := by decide +kernel
theorem dX3_readInto_16 : decode cX3_readInto 16 = .ok (.aload_n 0, 1) := by decide +kernel
theorem dX3_readInto_17 : decode cX3_readInto 17 = .ok (.getfield 15, 3) := by decide +kernel
theorem dX3_readInto_20 : decode cX3_readInto 20 = .ok (.if_icmp .ge 34, 3) := by decide +kernel
theorem dX3_readInto_23 : decode cX3_readInto 23 = .ok (.iload_n 2, 1) := by decide +kernel
theorem dX3_readInto_24 : decode cX3_readInto 24 = .ok (.aload_n 0, 1) := by decide +kernel
theorem dX3_readInto_25 : decode cX3_readInto 25 = .ok (.getfield 9, 3) := by decide +kernel
theorem dX3_readInto_28 : decode cX3_readInto 28 = .ok (.arraylength, 1) := by decide +kernel
theorem dX3_readInto_29 : decode cX3_readInto 29 = .ok (.if_icmp .ge 25, 3) := by decide +kernel
theorem dX3_readInto_32 : decode cX3_readInto 32 = .ok (.aload_n 0, 1) := by decide +kernel
theorem dX3_readInto_33 : decode cX3_readInto 33 = .ok (.aload_n 0, 1) := by decide +kernel
theorem dX3_readInto_34 : decode cX3_readInto 34 = .ok (.getfield 9, 3) := by decide +kernel
theorem dX3_readInto_37 : decode cX3_readInto 37 = .ok (.iload_n 2, 1) := by decide +kernel
theorem dX3_readInto_38 : decode cX3_readInto 38 = .ok (.caload, 1) := by decide +kernel
theorem dX3_readInto_39 : decode cX3_readInto 39 = .ok (.aload_n 1, 1) := by decide +kernel
theorem dX3_readInto_40 : decode cX3_readInto 40 = .ok (.invokevirtual 30, 3) := by decide +kernel
theorem dX3_readInto_43 : decode cX3_readInto 43 = .ok (.ifCond .ne 5, 3) := by decide +kernel
theorem dX3_readInto_46 : decode cX3_readInto 46 = .ok (.iload_n 2, 1) := by decide +kernel
theorem dX3_readInto_47 : decode cX3_readInto 47 = .ok (.ireturn, 1) := by decide +kernel
theorem dX3_readInto_48 : decode cX3_readInto 48 = .ok (.iinc 2 1, 3) := by decide +kernel
theorem dX3_readInto_51 : decode cX3_readInto 51 = .ok (.goto (-36), 3) := by decide +kernel
theorem dX3_readInto_54 : decode cX3_readInto 54 = .ok (.aload_n 0, 1) := by decide +kernel
theorem dX3_readInto_55 : decode cX3_readInto 55 = .ok (.aload_n 1, 1) := by decide +kernel
theorem dX3_readInto_56 : decode cX3_readInto 56 = .ok (.invokevirtual 34, 3) := by decide +kernel
theorem dX3_readInto_59 : decode cX3_readInto 59 = .ok (.ifCond .eq 7, 3) := by decide +kernel
theorem dX3_readInto_62 : decode cX3_readInto 62 = .ok (.iconst (-1), 1) := by decide +kernel
theorem dX3_readInto_63 : decode cX3_readInto 63 = .ok (.goto 7, 3) := by decide +kernel
theorem dX3_readInto_66 : decode cX3_readInto 66 = .ok (.aload_n 0, 1) := by decide +kernel
theorem dX3_readInto_67 : decode cX3_readInto 67 = .ok (.getfield 15, 3) := by decide +kernel
theorem dX3_readInto_70 : decode cX3_readInto 70 = .ok (.ireturn, 1) := by decide +kernel
theorem dX3_beginClause_0 : decode cX3_beginClause 0 = .ok (.aload_n 0, 1) := by decide +kernel
theorem dX3_beginClause_1 : decode cX3_beginClause 1 = .ok (.iconst 0, 1) := by decide +kernel
theorem dX3_beginClause_2 : decode cX3_beginClause 2 = .ok (.putfield 38, 3) := by decide +kernel
theorem dX3_beginClause_5 : decode cX3_beginClause 5 = .ok (.aload_n 0, 1) := by decide +kernel
theorem dX3_beginClause_6 : decode cX3_beginClause 6 = .ok (.iconst 0, 1) := by decide +kernel
theorem dX3_beginClause_7 : decode cX3_beginClause 7 = .ok (.putfield 41, 3) := by decide +kernel
theorem dX3_beginClause_10 : decode cX3_beginClause 10 = .ok (.aload_n 0, 1) := by decide +kernel
theorem dX3_beginClause_11 : decode cX3_beginClause 11 = .ok (.iconst (-1), 1) := by decide +kernel
theorem dX3_beginClause_12 : decode cX3_beginClause 12 = .ok (.putfield 44, 3) := by decide +kernel
theorem dX3_beginClause_15 : decode cX3_beginClause 15 = .ok (.aload_n 0, 1) := by decide +kernel
theorem dX3_beginClause_16 : decode cX3_beginClause 16 = .ok (.iconst 0, 1) := by decide +kernel
theorem dX3_beginClause_17 : decode cX3_beginClause 17 = .ok (.putfield 47, 3) := by decide +kernel
theorem dX3_beginClause_20 : decode cX3_beginClause 20 = .ok (.return_, 1) := by decide +kernel
set_option maxRecDepth 20000 in
theorem ggX3_reads_X3_readsMinus : GoodIn wsX3_reads wsX3_readsMinus := goodIn_r _ [5, 6, 7, 36, 37, 38, 39, 40, 41, 42] (by decide +kernel) (by decide +kernel)
set_option maxRecDepth 20000 in
theorem gX3_reads_X3_readsMinus : GoodIn wsX3_reads (wsV RX3 51 RX3 yX3_readsMinus wsX3_readsMinus) := goodIn_app (goodIn_of _ (by decide +kernel)) ggX3_reads_X3_readsMinus
set_option maxRecDepth 20000 in
theorem ggX3_reads_X3_endsClause : GoodIn wsX3_reads wsX3_endsClause := goodIn_r _ [11, 6, 7, 12, 13, 14, 15, 16, 17, 18, 19, 20, 21, 22, 23, 24, 25, 26, 4, 27, 36, 37, 38, 39, 40, 41, 42, 43, 44, 45, 46] (by decide +kernel) (by decide +kernel)
set_option maxRecDepth 20000 in
theorem gX3_reads_X3_endsClause : GoodIn wsX3_reads (wsV RX3 34 RX3 yX3_endsClause wsX3_endsClause) := goodIn_app (goodIn_of _ (by decide +kernel)) ggX3_reads_X3_endsClause
set_option maxRecDepth 20000 in
theorem ggX3_reads_X3_readsSlash : GoodIn wsX3_reads wsX3_readsSlash := goodIn_r _ [31, 12, 8, 9, 10, 4, 11, 6, 7, 13, 14, 15, 16, 17, 18, 19, 20, 21, 22, 23, 24, 25, 26, 27, 36, 37, 38, 39, 40, 41, 42, 43, 44, 45, 46] (by decide +kernel) (by decide +kernel)
set_option maxRecDepth 20000 in
theorem gX3_reads_X3_readsSlash : GoodIn wsX3_reads (wsV RX3 55 RX3 yX3_readsSlash wsX3_readsSlash) := goodIn_app (goodIn_of _ (by decide +kernel)) ggX3_reads_X3_readsSlash
set_option maxRecDepth 20000 in
theorem ggX3_reads_X3_readsSign : GoodIn wsX3_reads wsX3_readsSign := goodIn_r _ [35, 7, 6, 14, 13, 36, 37, 38, 39, 40, 41, 42] (by decide +kernel) (by decide +kernel)
set_option maxRecDepth 20000 in
theorem gX3_reads_X3_readsSign : GoodIn wsX3_reads (wsV RX3 58 RX3 yX3_readsSign wsX3_readsSign) := goodIn_app (goodIn_of _ (by decide +kernel)) ggX3_reads_X3_readsSign
theorem dX3_reads_0 : decode cX3_reads 0 = .ok (.iload_n 1, 1) := by decide +kernel
theorem dX3_reads_1 : decode cX3_reads 1 = .ok (.bipush 45, 2) := by decide +kernel
theorem dX3_reads_3 : decode cX3_reads 3 = .ok (.if_icmp .ne 8, 3) := by decide +kernel
theorem dX3_reads_6 : decode cX3_reads 6 = .ok (.aload_n 0, 1) := by decide +kernel
theorem dX3_reads_7 : decode cX3_reads 7 = .ok (.invokevirtual 51, 3) := by decide +kernel
theorem dX3_reads_10 : decode cX3_reads 10 = .ok (.ireturn, 1) := by decide +kernel
theorem dX3_reads_11 : decode cX3_reads 11 = .ok (.iload_n 1, 1) := by decide +kernel
theorem dX3_reads_12 : decode cX3_reads 12 = .ok (.bipush 44, 2) := by decide +kernel
theorem dX3_reads_14 : decode cX3_reads 14 = .ok (.if_icmp .ne 9, 3) := by decide +kernel
theorem dX3_reads_17 : decode cX3_reads 17 = .ok (.aload_n 0, 1) := by decide +kernel
theorem dX3_reads_18 : decode cX3_reads 18 = .ok (.aload_n 2, 1) := by decide +kernel
theorem dX3_reads_19 : decode cX3_reads 19 = .ok (.invokevirtual 34, 3) := by decide +kernel
theorem dX3_reads_22 : decode cX3_reads 22 = .ok (.ireturn, 1) := by decide +kernel
theorem dX3_reads_23 : decode cX3_reads 23 = .ok (.iload_n 1, 1) := by decide +kernel
theorem dX3_reads_24 : decode cX3_reads 24 = .ok (.bipush 47, 2) := by decide +kernel
theorem dX3_reads_26 : decode cX3_reads 26 = .ok (.if_icmp .ne 9, 3) := by decide +kernel
theorem dX3_reads_29 : decode cX3_reads 29 = .ok (.aload_n 0, 1) := by decide +kernel
theorem dX3_reads_30 : decode cX3_reads 30 = .ok (.aload_n 2, 1) := by decide +kernel
theorem dX3_reads_31 : decode cX3_reads 31 = .ok (.invokevirtual 55, 3) := by decide +kernel
theorem dX3_reads_34 : decode cX3_reads 34 = .ok (.ireturn, 1) := by decide +kernel
theorem dX3_reads_35 : decode cX3_reads 35 = .ok (.aload_n 0, 1) := by decide +kernel
theorem dX3_reads_36 : decode cX3_reads 36 = .ok (.iload_n 1, 1) := by decide +kernel
theorem dX3_reads_37 : decode cX3_reads 37 = .ok (.bipush 97, 2) := by decide +kernel
theorem dX3_reads_39 : decode cX3_reads 39 = .ok (.isub, 1) := by decide +kernel
theorem dX3_reads_40 : decode cX3_reads 40 = .ok (.invokevirtual 58, 3) := by decide +kernel
theorem dX3_reads_43 : decode cX3_reads 43 = .ok (.ireturn, 1) := by decide +kernel
theorem dX3_readsMinus_0 : decode cX3_readsMinus 0 = .ok (.aload_n 0, 1) := by decide +kernel
theorem dX3_readsMinus_1 : decode cX3_readsMinus 1 = .ok (.getfield 47, 3) := by decide +kernel
theorem dX3_readsMinus_4 : decode cX3_readsMinus 4 = .ok (.ifCond .ne 11, 3) := by decide +kernel
theorem dX3_readsMinus_7 : decode cX3_readsMinus 7 = .ok (.aload_n 0, 1) := by decide +kernel
theorem dX3_readsMinus_8 : decode cX3_readsMinus 8 = .ok (.getfield 44, 3) := by decide +kernel
theorem dX3_readsMinus_11 : decode cX3_readsMinus 11 = .ok (.iconst 5, 1) := by decide +kernel
theorem dX3_readsMinus_12 : decode cX3_readsMinus 12 = .ok (.if_icmp .lt 5, 3) := by decide +kernel
theorem dX3_readsMinus_15 : decode cX3_readsMinus 15 = .ok (.iconst 0, 1) := by decide +kernel
theorem dX3_readsMinus_16 : decode cX3_readsMinus 16 = .ok (.ireturn, 1) := by decide +kernel
theorem dX3_readsMinus_17 : decode cX3_readsMinus 17 = .ok (.aload_n 0, 1) := by decide +kernel
theorem dX3_readsMinus_18 : decode cX3_readsMinus 18 = .ok (.iconst 1, 1) := by decide +kernel
theorem dX3_readsMinus_19 : decode cX3_readsMinus 19 = .ok (.putfield 47, 3) := by decide +kernel
theorem dX3_readsMinus_22 : decode cX3_readsMinus 22 = .ok (.iconst 1, 1) := by decide +kernel
theorem dX3_readsMinus_23 : decode cX3_readsMinus 23 = .ok (.ireturn, 1) := by decide +kernel
set_option maxRecDepth 20000 in
theorem ggX3_readsSlash_X3_endsClause : GoodIn wsX3_readsSlash wsX3_endsClause := goodIn_r _ [6, 7, 8, 1, 9, 10, 11, 12, 13, 14, 15, 16, 17, 18, 19, 20, 21, 22, 5, 23, 24, 25, 26, 27, 28, 29, 30, 31, 32, 33, 34] (by decide +kernel) (by decide +kernel)
set_option maxRecDepth 20000 in
theorem gX3_readsSlash_X3_endsClause : GoodIn wsX3_readsSlash (wsV RX3 34 RX3 yX3_endsClause wsX3_endsClause) := goodIn_app (goodIn_of _ (by decide +kernel)) ggX3_readsSlash_X3_endsClause
theorem dX3_readsSlash_0 : decode cX3_readsSlash 0 = .ok (.aload_n 0, 1) := by decide +kernel
theorem dX3_readsSlash_1 : decode cX3_readsSlash 1 = .ok (.getfield 24, 3) := by decide +kernel
theorem dX3_readsSlash_4 : decode cX3_readsSlash 4 = .ok (.ifCond .ne 11, 3) := by decide +kernel
theorem dX3_readsSlash_7 : decode cX3_readsSlash 7 = .ok (.aload_n 0, 1) := by decide +kernel
theorem dX3_readsSlash_8 : decode cX3_readsSlash 8 = .ok (.aload_n 1, 1) := by decide +kernel
theorem dX3_readsSlash_9 : decode cX3_readsSlash 9 = .ok (.invokevirtual 34, 3) := by decide +kernel
theorem dX3_readsSlash_12 : decode cX3_readsSlash 12 = .ok (.ifCond .ne 5, 3) := by decide +kernel
theorem dX3_readsSlash_15 : decode cX3_readsSlash 15 = .ok (.iconst 0, 1) := by decide +kernel
theorem dX3_readsSlash_16 : decode cX3_readsSlash 16 = .ok (.ireturn, 1) := by decide +kernel
theorem dX3_readsSlash_17 : decode cX3_readsSlash 17 = .ok (.aload_n 0, 1) := by decide +kernel
theorem dX3_readsSlash_18 : decode cX3_readsSlash 18 = .ok (.iconst 1, 1) := by decide +kernel
theorem dX3_readsSlash_19 : decode cX3_readsSlash 19 = .ok (.putfield 24, 3) := by decide +kernel
theorem dX3_readsSlash_22 : decode cX3_readsSlash 22 = .ok (.iconst 1, 1) := by decide +kernel
theorem dX3_readsSlash_23 : decode cX3_readsSlash 23 = .ok (.ireturn, 1) := by decide +kernel
theorem dX3_readsSign_0 : decode cX3_readsSign 0 = .ok (.iload_n 1, 1) := by decide +kernel
theorem dX3_readsSign_1 : decode cX3_readsSign 1 = .ok (.aload_n 0, 1) := by decide +kernel
theorem dX3_readsSign_2 : decode cX3_readsSign 2 = .ok (.getfield 44, 3) := by decide +kernel
theorem dX3_readsSign_5 : decode cX3_readsSign 5 = .ok (.if_icmp .le 9, 3) := by decide +kernel
theorem dX3_readsSign_8 : decode cX3_readsSign 8 = .ok (.iload_n 1, 1) := by decide +kernel
theorem dX3_readsSign_9 : decode cX3_readsSign 9 = .ok (.bipush 6, 2) := by decide +kernel
theorem dX3_readsSign_11 : decode cX3_readsSign 11 = .ok (.if_icmp .lt 5, 3) := by decide +kernel
theorem dX3_readsSign_14 : decode cX3_readsSign 14 = .ok (.iconst 0, 1) := by decide +kernel
theorem dX3_readsSign_15 : decode cX3_readsSign 15 = .ok (.ireturn, 1) := by decide +kernel
theorem dX3_readsSign_16 : decode cX3_readsSign 16 = .ok (.aload_n 0, 1) := by decide +kernel
theorem dX3_readsSign_17 : decode cX3_readsSign 17 = .ok (.getfield 47, 3) := by decide +kernel
theorem dX3_readsSign_20 : decode cX3_readsSign 20 = .ok (.ifCond .eq 18, 3) := by decide +kernel
theorem dX3_readsSign_23 : decode cX3_readsSign 23 = .ok (.aload_n 0, 1) := by decide +kernel
theorem dX3_readsSign_24 : decode cX3_readsSign 24 = .ok (.dup, 1) := by decide +kernel
theorem dX3_readsSign_25 : decode cX3_readsSign 25 = .ok (.getfield 41, 3) := by decide +kernel
theorem dX3_readsSign_28 : decode cX3_readsSign 28 = .ok (.iconst 1, 1) := by decide +kernel
theorem dX3_readsSign_29 : decode cX3_readsSign 29 = .ok (.iload_n 1, 1) := by decide +kernel
theorem dX3_readsSign_30 : decode cX3_readsSign 30 = .ok (.ishl, 1) := by decide +kernel
theorem dX3_readsSign_31 : decode cX3_readsSign 31 = .ok (.ior, 1) := by decide +kernel
theorem dX3_readsSign_32 : decode cX3_readsSign 32 = .ok (.putfield 41, 3) := by decide +kernel
theorem dX3_readsSign_35 : decode cX3_readsSign 35 = .ok (.goto 15, 3) := by decide +kernel
theorem dX3_readsSign_38 : decode cX3_readsSign 38 = .ok (.aload_n 0, 1) := by decide +kernel
theorem dX3_readsSign_39 : decode cX3_readsSign 39 = .ok (.dup, 1) := by decide +kernel
theorem dX3_readsSign_40 : decode cX3_readsSign 40 = .ok (.getfield 38, 3) := by decide +kernel
theorem dX3_readsSign_43 : decode cX3_readsSign 43 = .ok (.iconst 1, 1) := by decide +kernel
theorem dX3_readsSign_44 : decode cX3_readsSign 44 = .ok (.iload_n 1, 1) := by decide +kernel
theorem dX3_readsSign_45 : decode cX3_readsSign 45 = .ok (.ishl, 1) := by decide +kernel
theorem dX3_readsSign_46 : decode cX3_readsSign 46 = .ok (.ior, 1) := by decide +kernel
theorem dX3_readsSign_47 : decode cX3_readsSign 47 = .ok (.putfield 38, 3) := by decide +kernel
theorem dX3_readsSign_50 : decode cX3_readsSign 50 = .ok (.aload_n 0, 1) := by decide +kernel
theorem dX3_readsSign_51 : decode cX3_readsSign 51 = .ok (.iload_n 1, 1) := by decide +kernel
theorem dX3_readsSign_52 : decode cX3_readsSign 52 = .ok (.putfield 44, 3) := by decide +kernel
theorem dX3_readsSign_55 : decode cX3_readsSign 55 = .ok (.aload_n 0, 1) := by decide +kernel
theorem dX3_readsSign_56 : decode cX3_readsSign 56 = .ok (.iconst 0, 1) := by decide +kernel
theorem dX3_readsSign_57 : decode cX3_readsSign 57 = .ok (.putfield 47, 3) := by decide +kernel
theorem dX3_readsSign_60 : decode cX3_readsSign 60 = .ok (.iconst 1, 1) := by decide +kernel
theorem dX3_readsSign_61 : decode cX3_readsSign 61 = .ok (.ireturn, 1) := by decide +kernel
set_option maxRecDepth 20000 in
theorem ggX3_endsClause_X0_append : GoodIn wsX3_endsClause wsX0_append := goodIn_r _ [10, 11, 12, 13, 14, 27, 28, 29, 30] (by decide +kernel) (by decide +kernel)
set_option maxRecDepth 20000 in
theorem gX3_endsClause_X0_append : GoodIn wsX3_endsClause (wsV RX3 62 RX0 yX0_append wsX0_append) := goodIn_app (goodIn_of _ (by decide +kernel)) ggX3_endsClause_X0_append
set_option maxRecDepth 20000 in
theorem ggX3_endsClause_X3_beginClause : GoodIn wsX3_endsClause wsX3_beginClause := goodIn_r _ [19, 4, 5, 2, 1, 20, 21, 22, 23, 24, 25, 26] (by decide +kernel) (by decide +kernel)
set_option maxRecDepth 20000 in
theorem gX3_endsClause_X3_beginClause : GoodIn wsX3_endsClause (wsV RX3 27 RX3 yX3_beginClause wsX3_beginClause) := goodIn_app (goodIn_of _ (by decide +kernel)) ggX3_endsClause_X3_beginClause
theorem dX3_endsClause_0 : decode cX3_endsClause 0 = .ok (.aload_n 0, 1) := by decide +kernel
theorem dX3_endsClause_1 : decode cX3_endsClause 1 = .ok (.getfield 47, 3) := by decide +kernel
theorem dX3_endsClause_4 : decode cX3_endsClause 4 = .ok (.ifCond .ne 10, 3) := by decide +kernel
theorem dX3_endsClause_7 : decode cX3_endsClause 7 = .ok (.aload_n 0, 1) := by decide +kernel
theorem dX3_endsClause_8 : decode cX3_endsClause 8 = .ok (.getfield 44, 3) := by decide +kernel
theorem dX3_endsClause_11 : decode cX3_endsClause 11 = .ok (.ifCond .ge 5, 3) := by decide +kernel
theorem dX3_endsClause_14 : decode cX3_endsClause 14 = .ok (.iconst 0, 1) := by decide +kernel
theorem dX3_endsClause_15 : decode cX3_endsClause 15 = .ok (.ireturn, 1) := by decide +kernel
theorem dX3_endsClause_16 : decode cX3_endsClause 16 = .ok (.aload_n 1, 1) := by decide +kernel
theorem dX3_endsClause_17 : decode cX3_endsClause 17 = .ok (.aload_n 0, 1) := by decide +kernel
theorem dX3_endsClause_18 : decode cX3_endsClause 18 = .ok (.getfield 24, 3) := by decide +kernel
theorem dX3_endsClause_21 : decode cX3_endsClause 21 = .ok (.aload_n 0, 1) := by decide +kernel
theorem dX3_endsClause_22 : decode cX3_endsClause 22 = .ok (.getfield 38, 3) := by decide +kernel
theorem dX3_endsClause_25 : decode cX3_endsClause 25 = .ok (.aload_n 0, 1) := by decide +kernel
theorem dX3_endsClause_26 : decode cX3_endsClause 26 = .ok (.getfield 41, 3) := by decide +kernel
theorem dX3_endsClause_29 : decode cX3_endsClause 29 = .ok (.invokevirtual 62, 3) := by decide +kernel
theorem dX3_endsClause_32 : decode cX3_endsClause 32 = .ok (.aload_n 0, 1) := by decide +kernel
theorem dX3_endsClause_33 : decode cX3_endsClause 33 = .ok (.invokevirtual 27, 3) := by decide +kernel
theorem dX3_endsClause_36 : decode cX3_endsClause 36 = .ok (.iconst 1, 1) := by decide +kernel
theorem dX3_endsClause_37 : decode cX3_endsClause 37 = .ok (.ireturn, 1) := by decide +kernel
