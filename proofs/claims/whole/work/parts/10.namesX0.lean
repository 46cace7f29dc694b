theorem dX0_init_0 : decode cX0_init 0 = .ok (.aload_n 0, 1) := by decide +kernel
theorem dX0_init_1 : decode cX0_init 1 = .ok (.invokespecial 1, 3) := by decide +kernel
theorem dX0_init_4 : decode cX0_init 4 = .ok (.iconst 0, 1) := by decide +kernel
theorem dX0_init_5 : decode cX0_init 5 = .ok (.iload_n 1, 1) := by decide +kernel
theorem dX0_init_6 : decode cX0_init 6 = .ok (.invokestatic 7, 3) := by decide +kernel
theorem dX0_init_9 : decode cX0_init 9 = .ok (.istore_n 2, 1) := by decide +kernel
theorem dX0_init_10 : decode cX0_init 10 = .ok (.aload_n 0, 1) := by decide +kernel
theorem dX0_init_11 : decode cX0_init 11 = .ok (.iload_n 2, 1) := by decide +kernel
theorem dX0_init_12 : decode cX0_init 12 = .ok (.newarray .int, 2) := by decide +kernel
theorem dX0_init_14 : decode cX0_init 14 = .ok (.putfield 13, 3) := by decide +kernel
theorem dX0_init_17 : decode cX0_init 17 = .ok (.aload_n 0, 1) := by decide +kernel
theorem dX0_init_18 : decode cX0_init 18 = .ok (.iload_n 2, 1) := by decide +kernel
theorem dX0_init_19 : decode cX0_init 19 = .ok (.newarray .int, 2) := by decide +kernel
theorem dX0_init_21 : decode cX0_init 21 = .ok (.putfield 19, 3) := by decide +kernel
theorem dX0_init_24 : decode cX0_init 24 = .ok (.aload_n 0, 1) := by decide +kernel
theorem dX0_init_25 : decode cX0_init 25 = .ok (.iload_n 2, 1) := by decide +kernel
theorem dX0_init_26 : decode cX0_init 26 = .ok (.newarray .int, 2) := by decide +kernel
theorem dX0_init_28 : decode cX0_init 28 = .ok (.putfield 22, 3) := by decide +kernel
theorem dX0_init_31 : decode cX0_init 31 = .ok (.aload_n 0, 1) := by decide +kernel
theorem dX0_init_32 : decode cX0_init 32 = .ok (.iconst 0, 1) := by decide +kernel
theorem dX0_init_33 : decode cX0_init 33 = .ok (.putfield 25, 3) := by decide +kernel
theorem dX0_init_36 : decode cX0_init 36 = .ok (.return_, 1) := by decide +kernel
theorem dX0_size_0 : decode cX0_size 0 = .ok (.aload_n 0, 1) := by decide +kernel
theorem dX0_size_1 : decode cX0_size 1 = .ok (.getfield 25, 3) := by decide +kernel
theorem dX0_size_4 : decode cX0_size 4 = .ok (.ireturn, 1) := by decide +kernel
theorem dX0_has_0 : decode cX0_has 0 = .ok (.iload_n 1, 1) := by decide +kernel
theorem dX0_has_1 : decode cX0_has 1 = .ok (.ifCond .lt 24, 3) := by decide +kernel
theorem dX0_has_4 : decode cX0_has 4 = .ok (.iload_n 1, 1) := by decide +kernel
theorem dX0_has_5 : decode cX0_has 5 = .ok (.aload_n 0, 1) := by decide +kernel
theorem dX0_has_6 : decode cX0_has 6 = .ok (.getfield 25, 3) := by decide +kernel
theorem dX0_has_9 : decode cX0_has 9 = .ok (.if_icmp .ge 16, 3) := by decide +kernel
theorem dX0_has_12 : decode cX0_has 12 = .ok (.iload_n 1, 1) := by decide +kernel
theorem dX0_has_13 : decode cX0_has 13 = .ok (.aload_n 0, 1) := by decide +kernel
theorem dX0_has_14 : decode cX0_has 14 = .ok (.getfield 13, 3) := by decide +kernel
theorem dX0_has_17 : decode cX0_has 17 = .ok (.arraylength, 1) := by decide +kernel
theorem dX0_has_18 : decode cX0_has 18 = .ok (.if_icmp .ge 7, 3) := by decide +kernel
theorem dX0_has_21 : decode cX0_has 21 = .ok (.iconst 1, 1) := by decide +kernel
theorem dX0_has_22 : decode cX0_has 22 = .ok (.goto 4, 3) := by decide +kernel
theorem dX0_has_25 : decode cX0_has 25 = .ok (.iconst 0, 1) := by decide +kernel
theorem dX0_has_26 : decode cX0_has 26 = .ok (.ireturn, 1) := by decide +kernel
set_option maxRecDepth 20000 in
theorem ggX0_sideOf_X0_has : GoodIn wsX0_sideOf wsX0_has := goodIn_r _ [6, 7, 1, 8, 9, 10, 11] (by decide +kernel) (by decide +kernel)
set_option maxRecDepth 20000 in
theorem gX0_sideOf_X0_has : GoodIn wsX0_sideOf (wsV RX0 29 RX0 yX0_has wsX0_has) := goodIn_app (goodIn_of _ (by decide +kernel)) ggX0_sideOf_X0_has
theorem dX0_sideOf_0 : decode cX0_sideOf 0 = .ok (.aload_n 0, 1) := by decide +kernel
theorem dX0_sideOf_1 : decode cX0_sideOf 1 = .ok (.iload_n 1, 1) := by decide +kernel
theorem dX0_sideOf_2 : decode cX0_sideOf 2 = .ok (.invokevirtual 29, 3) := by decide +kernel
theorem dX0_sideOf_5 : decode cX0_sideOf 5 = .ok (.ifCond .eq 12, 3) := by decide +kernel
theorem dX0_sideOf_8 : decode cX0_sideOf 8 = .ok (.aload_n 0, 1) := by decide +kernel
theorem dX0_sideOf_9 : decode cX0_sideOf 9 = .ok (.getfield 13, 3) := by decide +kernel
theorem dX0_sideOf_12 : decode cX0_sideOf 12 = .ok (.iload_n 1, 1) := by decide +kernel
theorem dX0_sideOf_13 : decode cX0_sideOf 13 = .ok (.iaload, 1) := by decide +kernel
theorem dX0_sideOf_14 : decode cX0_sideOf 14 = .ok (.goto 4, 3) := by decide +kernel
theorem dX0_sideOf_17 : decode cX0_sideOf 17 = .ok (.iconst 0, 1) := by decide +kernel
theorem dX0_sideOf_18 : decode cX0_sideOf 18 = .ok (.ireturn, 1) := by decide +kernel
set_option maxRecDepth 20000 in
theorem ggX0_signsOf_X0_has : GoodIn wsX0_signsOf wsX0_has := goodIn_r _ [6, 7, 8, 9, 10, 11, 12] (by decide +kernel) (by decide +kernel)
set_option maxRecDepth 20000 in
theorem gX0_signsOf_X0_has : GoodIn wsX0_signsOf (wsV RX0 29 RX0 yX0_has wsX0_has) := goodIn_app (goodIn_of _ (by decide +kernel)) ggX0_signsOf_X0_has
theorem dX0_signsOf_0 : decode cX0_signsOf 0 = .ok (.aload_n 0, 1) := by decide +kernel
theorem dX0_signsOf_1 : decode cX0_signsOf 1 = .ok (.iload_n 1, 1) := by decide +kernel
theorem dX0_signsOf_2 : decode cX0_signsOf 2 = .ok (.invokevirtual 29, 3) := by decide +kernel
theorem dX0_signsOf_5 : decode cX0_signsOf 5 = .ok (.ifCond .eq 12, 3) := by decide +kernel
theorem dX0_signsOf_8 : decode cX0_signsOf 8 = .ok (.aload_n 0, 1) := by decide +kernel
theorem dX0_signsOf_9 : decode cX0_signsOf 9 = .ok (.getfield 19, 3) := by decide +kernel
theorem dX0_signsOf_12 : decode cX0_signsOf 12 = .ok (.iload_n 1, 1) := by decide +kernel
theorem dX0_signsOf_13 : decode cX0_signsOf 13 = .ok (.iaload, 1) := by decide +kernel
theorem dX0_signsOf_14 : decode cX0_signsOf 14 = .ok (.goto 4, 3) := by decide +kernel
theorem dX0_signsOf_17 : decode cX0_signsOf 17 = .ok (.iconst 0, 1) := by decide +kernel
theorem dX0_signsOf_18 : decode cX0_signsOf 18 = .ok (.ireturn, 1) := by decide +kernel
set_option maxRecDepth 20000 in
theorem ggX0_oppositesOf_X0_has : GoodIn wsX0_oppositesOf wsX0_has := goodIn_r _ [6, 7, 8, 9, 10, 11, 12] (by decide +kernel) (by decide +kernel)
set_option maxRecDepth 20000 in
theorem gX0_oppositesOf_X0_has : GoodIn wsX0_oppositesOf (wsV RX0 29 RX0 yX0_has wsX0_has) := goodIn_app (goodIn_of _ (by decide +kernel)) ggX0_oppositesOf_X0_has
theorem dX0_oppositesOf_0 : decode cX0_oppositesOf 0 = .ok (.aload_n 0, 1) := by decide +kernel
theorem dX0_oppositesOf_1 : decode cX0_oppositesOf 1 = .ok (.iload_n 1, 1) := by decide +kernel
theorem dX0_oppositesOf_2 : decode cX0_oppositesOf 2 = .ok (.invokevirtual 29, 3) := by decide +kernel
theorem dX0_oppositesOf_5 : decode cX0_oppositesOf 5 = .ok (.ifCond .eq 12, 3) := by decide +kernel
theorem dX0_oppositesOf_8 : decode cX0_oppositesOf 8 = .ok (.aload_n 0, 1) := by decide +kernel
theorem dX0_oppositesOf_9 : decode cX0_oppositesOf 9 = .ok (.getfield 22, 3) := by decide +kernel
theorem dX0_oppositesOf_12 : decode cX0_oppositesOf 12 = .ok (.iload_n 1, 1) := by decide +kernel
theorem dX0_oppositesOf_13 : decode cX0_oppositesOf 13 = .ok (.iaload, 1) := by decide +kernel
theorem dX0_oppositesOf_14 : decode cX0_oppositesOf 14 = .ok (.goto 4, 3) := by decide +kernel
theorem dX0_oppositesOf_17 : decode cX0_oppositesOf 17 = .ok (.iconst 0, 1) := by decide +kernel
theorem dX0_oppositesOf_18 : decode cX0_oppositesOf 18 = .ok (.ireturn, 1) := by decide +kernel
theorem dX0_clear_0 : decode cX0_clear 0 = .ok (.aload_n 0, 1) := by decide +kernel
theorem dX0_clear_1 : decode cX0_clear 1 = .ok (.iconst 0, 1) := by decide +kernel
theorem dX0_clear_2 : decode cX0_clear 2 = .ok (.putfield 25, 3) := by decide +kernel
theorem dX0_clear_5 : decode cX0_clear 5 = .ok (.return_, 1) := by decide +kernel
theorem dX0_append_0 : decode cX0_append 0 = .ok (.aload_n 0, 1) := by decide +kernel
theorem dX0_append_1 : decode cX0_append 1 = .ok (.getfield 25, 3) := by decide +kernel
theorem dX0_append_4 : decode cX0_append 4 = .ok (.ifCond .lt 55, 3) := by decide +kernel
theorem dX0_append_7 : decode cX0_append 7 = .ok (.aload_n 0, 1) := by decide +kernel
theorem dX0_append_8 : decode cX0_append 8 = .ok (.getfield 25, 3) := by decide +kernel
theorem dX0_append_11 : decode cX0_append 11 = .ok (.aload_n 0, 1) := by decide +kernel
theorem dX0_append_12 : decode cX0_append 12 = .ok (.getfield 13, 3) := by decide +kernel
theorem dX0_append_15 : decode cX0_append 15 = .ok (.arraylength, 1) := by decide +kernel
theorem dX0_append_16 : decode cX0_append 16 = .ok (.if_icmp .ge 43, 3) := by decide +kernel
theorem dX0_append_19 : decode cX0_append 19 = .ok (.aload_n 0, 1) := by decide +kernel
theorem dX0_append_20 : decode cX0_append 20 = .ok (.getfield 13, 3) := by decide +kernel
theorem dX0_append_23 : decode cX0_append 23 = .ok (.aload_n 0, 1) := by decide +kernel
theorem dX0_append_24 : decode cX0_append 24 = .ok (.getfield 25, 3) := by decide +kernel
theorem dX0_append_27 : decode cX0_append 27 = .ok (.iload_n 1, 1) := by decide +kernel
theorem dX0_append_28 : decode cX0_append 28 = .ok (.iastore, 1) := by decide +kernel
theorem dX0_append_29 : decode cX0_append 29 = .ok (.aload_n 0, 1) := by decide +kernel
theorem dX0_append_30 : decode cX0_append 30 = .ok (.getfield 19, 3) := by decide +kernel
theorem dX0_append_33 : decode cX0_append 33 = .ok (.aload_n 0, 1) := by decide +kernel
theorem dX0_append_34 : decode cX0_append 34 = .ok (.getfield 25, 3) := by decide +kernel
theorem dX0_append_37 : decode cX0_append 37 = .ok (.iload_n 2, 1) := by decide +kernel
theorem dX0_append_38 : decode cX0_append 38 = .ok (.iastore, 1) := by decide +kernel
theorem dX0_append_39 : decode cX0_append 39 = .ok (.aload_n 0, 1) := by decide +kernel
theorem dX0_append_40 : decode cX0_append 40 = .ok (.getfield 22, 3) := by decide +kernel
theorem dX0_append_43 : decode cX0_append 43 = .ok (.aload_n 0, 1) := by decide +kernel
theorem dX0_append_44 : decode cX0_append 44 = .ok (.getfield 25, 3) := by decide +kernel
theorem dX0_append_47 : decode cX0_append 47 = .ok (.iload_n 3, 1) := by decide +kernel
theorem dX0_append_48 : decode cX0_append 48 = .ok (.iastore, 1) := by decide +kernel
theorem dX0_append_49 : decode cX0_append 49 = .ok (.aload_n 0, 1) := by decide +kernel
theorem dX0_append_50 : decode cX0_append 50 = .ok (.dup, 1) := by decide +kernel
theorem dX0_append_51 : decode cX0_append 51 = .ok (.getfield 25, 3) := by decide +kernel
theorem dX0_append_54 : decode cX0_append 54 = .ok (.iconst 1, 1) := by decide +kernel
theorem dX0_append_55 : decode cX0_append 55 = .ok (.iadd, 1) := by decide +kernel
theorem dX0_append_56 : decode cX0_append 56 = .ok (.putfield 25, 3) := by decide +kernel
theorem dX0_append_59 : decode cX0_append 59 = .ok (.return_, 1) := by decide +kernel
set_option maxRecDepth 20000 in
theorem ggX0_appendEach_X0_size : GoodIn wsX0_appendEach wsX0_size := goodIn_r _ [5, 6, 30, 31, 32, 33] (by decide +kernel) (by decide +kernel)
set_option maxRecDepth 20000 in
theorem gX0_appendEach_X0_size : GoodIn wsX0_appendEach (wsV RX0 33 RX0 yX0_size wsX0_size) := goodIn_app (goodIn_of _ (by decide +kernel)) ggX0_appendEach_X0_size
set_option maxRecDepth 20000 in
theorem ggX0_appendEach_X0_sideOf : GoodIn wsX0_appendEach wsX0_sideOf := goodIn_r _ [10, 11, 12, 13, 14, 4, 15, 6, 30, 31, 32, 33] (by decide +kernel) (by decide +kernel)
set_option maxRecDepth 20000 in
theorem gX0_appendEach_X0_sideOf : GoodIn wsX0_appendEach (wsV RX0 36 RX0 yX0_sideOf wsX0_sideOf) := goodIn_app (goodIn_of _ (by decide +kernel)) ggX0_appendEach_X0_sideOf
set_option maxRecDepth 20000 in
theorem ggX0_appendEach_X0_signsOf : GoodIn wsX0_appendEach wsX0_signsOf := goodIn_r _ [19, 20, 12, 13, 14, 4, 15, 6, 11, 30, 31, 32, 33] (by decide +kernel) (by decide +kernel)
set_option maxRecDepth 20000 in
theorem gX0_appendEach_X0_signsOf : GoodIn wsX0_appendEach (wsV RX0 40 RX0 yX0_signsOf wsX0_signsOf) := goodIn_app (goodIn_of _ (by decide +kernel)) ggX0_appendEach_X0_signsOf
set_option maxRecDepth 20000 in
theorem ggX0_appendEach_X0_oppositesOf : GoodIn wsX0_appendEach wsX0_oppositesOf := goodIn_r _ [24, 25, 12, 13, 14, 4, 15, 6, 11, 30, 31, 32, 33] (by decide +kernel) (by decide +kernel)
set_option maxRecDepth 20000 in
theorem gX0_appendEach_X0_oppositesOf : GoodIn wsX0_appendEach (wsV RX0 43 RX0 yX0_oppositesOf wsX0_oppositesOf) := goodIn_app (goodIn_of _ (by decide +kernel)) ggX0_appendEach_X0_oppositesOf
set_option maxRecDepth 20000 in
theorem ggX0_appendEach_X0_append : GoodIn wsX0_appendEach wsX0_append := goodIn_r _ [29, 6, 11, 20, 25, 30, 31, 32, 33] (by decide +kernel) (by decide +kernel)
set_option maxRecDepth 20000 in
theorem gX0_appendEach_X0_append : GoodIn wsX0_appendEach (wsV RX0 46 RX0 yX0_append wsX0_append) := goodIn_app (goodIn_of _ (by decide +kernel)) ggX0_appendEach_X0_append
theorem dX0_appendEach_0 : decode cX0_appendEach 0 = .ok (.aload_n 1, 1) := by decide +kernel
theorem dX0_appendEach_1 : decode cX0_appendEach 1 = .ok (.invokevirtual 33, 3) := by decide +kernel
theorem dX0_appendEach_4 : decode cX0_appendEach 4 = .ok (.istore_n 2, 1) := by decide +kernel
theorem dX0_appendEach_5 : decode cX0_appendEach 5 = .ok (.iconst 0, 1) := by decide +kernel
theorem dX0_appendEach_6 : decode cX0_appendEach 6 = .ok (.istore_n 3, 1) := by decide +kernel
theorem dX0_appendEach_7 : decode cX0_appendEach 7 = .ok (.iload_n 3, 1) := by decide +kernel
theorem dX0_appendEach_8 : decode cX0_appendEach 8 = .ok (.iload_n 2, 1) := by decide +kernel
theorem dX0_appendEach_9 : decode cX0_appendEach 9 = .ok (.if_icmp .ge 28, 3) := by decide +kernel
theorem dX0_appendEach_12 : decode cX0_appendEach 12 = .ok (.aload_n 0, 1) := by decide +kernel
theorem dX0_appendEach_13 : decode cX0_appendEach 13 = .ok (.aload_n 1, 1) := by decide +kernel
theorem dX0_appendEach_14 : decode cX0_appendEach 14 = .ok (.iload_n 3, 1) := by decide +kernel
theorem dX0_appendEach_15 : decode cX0_appendEach 15 = .ok (.invokevirtual 36, 3) := by decide +kernel
theorem dX0_appendEach_18 : decode cX0_appendEach 18 = .ok (.aload_n 1, 1) := by decide +kernel
theorem dX0_appendEach_19 : decode cX0_appendEach 19 = .ok (.iload_n 3, 1) := by decide +kernel
theorem dX0_appendEach_20 : decode cX0_appendEach 20 = .ok (.invokevirtual 40, 3) := by decide +kernel
theorem dX0_appendEach_23 : decode cX0_appendEach 23 = .ok (.aload_n 1, 1) := by decide +kernel
theorem dX0_appendEach_24 : decode cX0_appendEach 24 = .ok (.iload_n 3, 1) := by decide +kernel
theorem dX0_appendEach_25 : decode cX0_appendEach 25 = .ok (.invokevirtual 43, 3) := by decide +kernel
theorem dX0_appendEach_28 : decode cX0_appendEach 28 = .ok (.invokevirtual 46, 3) := by decide +kernel
theorem dX0_appendEach_31 : decode cX0_appendEach 31 = .ok (.iinc 3 1, 3) := by decide +kernel
theorem dX0_appendEach_34 : decode cX0_appendEach 34 = .ok (.goto (-27), 3) := by decide +kernel
theorem dX0_appendEach_37 : decode cX0_appendEach 37 = .ok (.return_, 1) := by decide +kernel
set_option maxRecDepth 20000 in
theorem ggX0_becomeLike_X0_clear : GoodIn wsX0_becomeLike wsX0_clear := goodIn_r _ [5, 6, 38, 39, 40, 41] (by decide +kernel) (by decide +kernel)
set_option maxRecDepth 20000 in
theorem gX0_becomeLike_X0_clear : GoodIn wsX0_becomeLike (wsV RX0 50 RX0 yX0_clear wsX0_clear) := goodIn_app (goodIn_of _ (by decide +kernel)) ggX0_becomeLike_X0_clear
set_option maxRecDepth 20000 in
theorem ggX0_becomeLike_X0_appendEach : GoodIn wsX0_becomeLike wsX0_appendEach := goodIn_r _ [10, 11, 12, 13, 4, 14, 6, 15, 16, 17, 18, 19, 20, 21, 22, 23, 24, 25, 26, 27, 28, 29, 30, 31, 32, 33, 34, 35, 36, 37, 38, 39, 40, 41] (by decide +kernel) (by decide +kernel)
set_option maxRecDepth 20000 in
theorem gX0_becomeLike_X0_appendEach : GoodIn wsX0_becomeLike (wsV RX0 53 RX0 yX0_appendEach wsX0_appendEach) := goodIn_app (goodIn_of _ (by decide +kernel)) ggX0_becomeLike_X0_appendEach
theorem dX0_becomeLike_0 : decode cX0_becomeLike 0 = .ok (.aload_n 0, 1) := by decide +kernel
theorem dX0_becomeLike_1 : decode cX0_becomeLike 1 = .ok (.invokevirtual 50, 3) := by decide +kernel
theorem dX0_becomeLike_4 : decode cX0_becomeLike 4 = .ok (.aload_n 0, 1) := by decide +kernel
theorem dX0_becomeLike_5 : decode cX0_becomeLike 5 = .ok (.aload_n 1, 1) := by decide +kernel
theorem dX0_becomeLike_6 : decode cX0_becomeLike 6 = .ok (.invokevirtual 53, 3) := by decide +kernel
theorem dX0_becomeLike_9 : decode cX0_becomeLike 9 = .ok (.return_, 1) := by decide +kernel
set_option maxRecDepth 20000 in
theorem ggX0_drop_X0_has : GoodIn wsX0_drop wsX0_has := goodIn_r _ [9, 1, 2, 10, 11, 12, 13] (by decide +kernel) (by decide +kernel)
set_option maxRecDepth 20000 in
theorem gX0_drop_X0_has : GoodIn wsX0_drop (wsV RX0 29 RX0 yX0_has wsX0_has) := goodIn_app (goodIn_of _ (by decide +kernel)) ggX0_drop_X0_has
theorem dX0_drop_0 : decode cX0_drop 0 = .ok (.aload_n 0, 1) := by decide +kernel
theorem dX0_drop_1 : decode cX0_drop 1 = .ok (.iload_n 1, 1) := by decide +kernel
theorem dX0_drop_2 : decode cX0_drop 2 = .ok (.invokevirtual 29, 3) := by decide +kernel
theorem dX0_drop_5 : decode cX0_drop 5 = .ok (.ifCond .ne 4, 3) := by decide +kernel
theorem dX0_drop_8 : decode cX0_drop 8 = .ok (.return_, 1) := by decide +kernel
theorem dX0_drop_9 : decode cX0_drop 9 = .ok (.iload_n 1, 1) := by decide +kernel
theorem dX0_drop_10 : decode cX0_drop 10 = .ok (.iconst 1, 1) := by decide +kernel
theorem dX0_drop_11 : decode cX0_drop 11 = .ok (.iadd, 1) := by decide +kernel
theorem dX0_drop_12 : decode cX0_drop 12 = .ok (.istore_n 2, 1) := by decide +kernel
theorem dX0_drop_13 : decode cX0_drop 13 = .ok (.iload_n 2, 1) := by decide +kernel
theorem dX0_drop_14 : decode cX0_drop 14 = .ok (.aload_n 0, 1) := by decide +kernel
theorem dX0_drop_15 : decode cX0_drop 15 = .ok (.getfield 25, 3) := by decide +kernel
theorem dX0_drop_18 : decode cX0_drop 18 = .ok (.if_icmp .ge 60, 3) := by decide +kernel
theorem dX0_drop_21 : decode cX0_drop 21 = .ok (.iload_n 2, 1) := by decide +kernel
theorem dX0_drop_22 : decode cX0_drop 22 = .ok (.aload_n 0, 1) := by decide +kernel
theorem dX0_drop_23 : decode cX0_drop 23 = .ok (.getfield 13, 3) := by decide +kernel
theorem dX0_drop_26 : decode cX0_drop 26 = .ok (.arraylength, 1) := by decide +kernel
theorem dX0_drop_27 : decode cX0_drop 27 = .ok (.if_icmp .ge 51, 3) := by decide +kernel
theorem dX0_drop_30 : decode cX0_drop 30 = .ok (.aload_n 0, 1) := by decide +kernel
theorem dX0_drop_31 : decode cX0_drop 31 = .ok (.getfield 13, 3) := by decide +kernel
theorem dX0_drop_34 : decode cX0_drop 34 = .ok (.iload_n 2, 1) := by decide +kernel
theorem dX0_drop_35 : decode cX0_drop 35 = .ok (.iconst 1, 1) := by decide +kernel
theorem dX0_drop_36 : decode cX0_drop 36 = .ok (.isub, 1) := by decide +kernel
theorem dX0_drop_37 : decode cX0_drop 37 = .ok (.aload_n 0, 1) := by decide +kernel
theorem dX0_drop_38 : decode cX0_drop 38 = .ok (.getfield 13, 3) := by decide +kernel
theorem dX0_drop_41 : decode cX0_drop 41 = .ok (.iload_n 2, 1) := by decide +kernel
theorem dX0_drop_42 : decode cX0_drop 42 = .ok (.iaload, 1) := by decide +kernel
theorem dX0_drop_43 : decode cX0_drop 43 = .ok (.iastore, 1) := by decide +kernel
theorem dX0_drop_44 : decode cX0_drop 44 = .ok (.aload_n 0, 1) := by decide +kernel
theorem dX0_drop_45 : decode cX0_drop 45 = .ok (.getfield 19, 3) := by decide +kernel
theorem dX0_drop_48 : decode cX0_drop 48 = .ok (.iload_n 2, 1) := by decide +kernel
theorem dX0_drop_49 : decode cX0_drop 49 = .ok (.iconst 1, 1) := by decide +kernel
theorem dX0_drop_50 : decode cX0_drop 50 = .ok (.isub, 1) := by decide +kernel
theorem dX0_drop_51 : decode cX0_drop 51 = .ok (.aload_n 0, 1) := by decide +kernel
theorem dX0_drop_52 : decode cX0_drop 52 = .ok (.getfield 19, 3) := by decide +kernel
theorem dX0_drop_55 : decode cX0_drop 55 = .ok (.iload_n 2, 1) := by decide +kernel
theorem dX0_drop_56 : decode cX0_drop 56 = .ok (.iaload, 1) := by decide +kernel
theorem dX0_drop_57 : decode cX0_drop 57 = .ok (.iastore, 1) := by decide +kernel
theorem dX0_drop_58 : decode cX0_drop 58 = .ok (.aload_n 0, 1) := by decide +kernel
theorem dX0_drop_59 : decode cX0_drop 59 = .ok (.getfield 22, 3) := by decide +kernel
theorem dX0_drop_62 : decode cX0_drop 62 = .ok (.iload_n 2, 1) := by decide +kernel
theorem dX0_drop_63 : decode cX0_drop 63 = .ok (.iconst 1, 1) := by decide +kernel
theorem dX0_drop_64 : decode cX0_drop 64 = .ok (.isub, 1) := by decide +kernel
theorem dX0_drop_65 : decode cX0_drop 65 = .ok (.aload_n 0, 1) := by decide +kernel
theorem dX0_drop_66 : decode cX0_drop 66 = .ok (.getfield 22, 3) := by decide +kernel
theorem dX0_drop_69 : decode cX0_drop 69 = .ok (.iload_n 2, 1) := by decide +kernel
theorem dX0_drop_70 : decode cX0_drop 70 = .ok (.iaload, 1) := by decide +kernel
theorem dX0_drop_71 : decode cX0_drop 71 = .ok (.iastore, 1) := by decide +kernel
theorem dX0_drop_72 : decode cX0_drop 72 = .ok (.iinc 2 1, 3) := by decide +kernel
theorem dX0_drop_75 : decode cX0_drop 75 = .ok (.goto (-62), 3) := by decide +kernel
theorem dX0_drop_78 : decode cX0_drop 78 = .ok (.aload_n 0, 1) := by decide +kernel
theorem dX0_drop_79 : decode cX0_drop 79 = .ok (.dup, 1) := by decide +kernel
theorem dX0_drop_80 : decode cX0_drop 80 = .ok (.getfield 25, 3) := by decide +kernel
theorem dX0_drop_83 : decode cX0_drop 83 = .ok (.iconst 1, 1) := by decide +kernel
theorem dX0_drop_84 : decode cX0_drop 84 = .ok (.isub, 1) := by decide +kernel
theorem dX0_drop_85 : decode cX0_drop 85 = .ok (.putfield 25, 3) := by decide +kernel
theorem dX0_drop_88 : decode cX0_drop 88 = .ok (.return_, 1) := by decide +kernel
set_option maxRecDepth 20000 in
theorem ggX0_changeSide_X0_has : GoodIn wsX0_changeSide wsX0_has := goodIn_r _ [6, 7, 1, 8, 9, 10, 11] (by decide +kernel) (by decide +kernel)
set_option maxRecDepth 20000 in
theorem gX0_changeSide_X0_has : GoodIn wsX0_changeSide (wsV RX0 29 RX0 yX0_has wsX0_has) := goodIn_app (goodIn_of _ (by decide +kernel)) ggX0_changeSide_X0_has
theorem dX0_changeSide_0 : decode cX0_changeSide 0 = .ok (.aload_n 0, 1) := by decide +kernel
theorem dX0_changeSide_1 : decode cX0_changeSide 1 = .ok (.iload_n 1, 1) := by decide +kernel
theorem dX0_changeSide_2 : decode cX0_changeSide 2 = .ok (.invokevirtual 29, 3) := by decide +kernel
theorem dX0_changeSide_5 : decode cX0_changeSide 5 = .ok (.ifCond .eq 17, 3) := by decide +kernel
theorem dX0_changeSide_8 : decode cX0_changeSide 8 = .ok (.aload_n 0, 1) := by decide +kernel
theorem dX0_changeSide_9 : decode cX0_changeSide 9 = .ok (.getfield 13, 3) := by decide +kernel
theorem dX0_changeSide_12 : decode cX0_changeSide 12 = .ok (.iload_n 1, 1) := by decide +kernel
theorem dX0_changeSide_13 : decode cX0_changeSide 13 = .ok (.iconst 1, 1) := by decide +kernel
theorem dX0_changeSide_14 : decode cX0_changeSide 14 = .ok (.aload_n 0, 1) := by decide +kernel
theorem dX0_changeSide_15 : decode cX0_changeSide 15 = .ok (.getfield 13, 3) := by decide +kernel
theorem dX0_changeSide_18 : decode cX0_changeSide 18 = .ok (.iload_n 1, 1) := by decide +kernel
theorem dX0_changeSide_19 : decode cX0_changeSide 19 = .ok (.iaload, 1) := by decide +kernel
theorem dX0_changeSide_20 : decode cX0_changeSide 20 = .ok (.isub, 1) := by decide +kernel
theorem dX0_changeSide_21 : decode cX0_changeSide 21 = .ok (.iastore, 1) := by decide +kernel
theorem dX0_changeSide_22 : decode cX0_changeSide 22 = .ok (.return_, 1) := by decide +kernel
set_option maxRecDepth 20000 in
theorem ggX0_sizeOfSide_X0_sideOf : GoodIn wsX0_sizeOfSide wsX0_sideOf := goodIn_r _ [6, 7, 8, 9, 10, 5, 11, 1, 15, 16, 17, 18] (by decide +kernel) (by decide +kernel)
set_option maxRecDepth 20000 in
theorem gX0_sizeOfSide_X0_sideOf : GoodIn wsX0_sizeOfSide (wsV RX0 36 RX0 yX0_sideOf wsX0_sideOf) := goodIn_app (goodIn_of _ (by decide +kernel)) ggX0_sizeOfSide_X0_sideOf
set_option maxRecDepth 20000 in
theorem ggX0_sizeOfSide_X4_asNumber : GoodIn wsX0_sizeOfSide wsX4_asNumber := goodIn_r _ [14] (by decide +kernel) (by decide +kernel)
set_option maxRecDepth 20000 in
theorem gX0_sizeOfSide_X4_asNumber_n57 : GoodIn wsX0_sizeOfSide (wsX4_asNumber) := ggX0_sizeOfSide_X4_asNumber
theorem dX0_sizeOfSide_0 : decode cX0_sizeOfSide 0 = .ok (.iconst 0, 1) := by decide +kernel
theorem dX0_sizeOfSide_1 : decode cX0_sizeOfSide 1 = .ok (.istore_n 2, 1) := by decide +kernel
theorem dX0_sizeOfSide_2 : decode cX0_sizeOfSide 2 = .ok (.iconst 0, 1) := by decide +kernel
theorem dX0_sizeOfSide_3 : decode cX0_sizeOfSide 3 = .ok (.istore_n 3, 1) := by decide +kernel
theorem dX0_sizeOfSide_4 : decode cX0_sizeOfSide 4 = .ok (.iload_n 3, 1) := by decide +kernel
theorem dX0_sizeOfSide_5 : decode cX0_sizeOfSide 5 = .ok (.aload_n 0, 1) := by decide +kernel
theorem dX0_sizeOfSide_6 : decode cX0_sizeOfSide 6 = .ok (.getfield 25, 3) := by decide +kernel
theorem dX0_sizeOfSide_9 : decode cX0_sizeOfSide 9 = .ok (.if_icmp .ge 29, 3) := by decide +kernel
theorem dX0_sizeOfSide_12 : decode cX0_sizeOfSide 12 = .ok (.iload_n 2, 1) := by decide +kernel
theorem dX0_sizeOfSide_13 : decode cX0_sizeOfSide 13 = .ok (.aload_n 0, 1) := by decide +kernel
theorem dX0_sizeOfSide_14 : decode cX0_sizeOfSide 14 = .ok (.iload_n 3, 1) := by decide +kernel
theorem dX0_sizeOfSide_15 : decode cX0_sizeOfSide 15 = .ok (.invokevirtual 36, 3) := by decide +kernel
theorem dX0_sizeOfSide_18 : decode cX0_sizeOfSide 18 = .ok (.iload_n 1, 1) := by decide +kernel
theorem dX0_sizeOfSide_19 : decode cX0_sizeOfSide 19 = .ok (.if_icmp .ne 7, 3) := by decide +kernel
theorem dX0_sizeOfSide_22 : decode cX0_sizeOfSide 22 = .ok (.iconst 1, 1) := by decide +kernel
theorem dX0_sizeOfSide_23 : decode cX0_sizeOfSide 23 = .ok (.goto 4, 3) := by decide +kernel
theorem dX0_sizeOfSide_26 : decode cX0_sizeOfSide 26 = .ok (.iconst 0, 1) := by decide +kernel
theorem dX0_sizeOfSide_27 : decode cX0_sizeOfSide 27 = .ok (.invokestatic 57, 3) := by decide +kernel
theorem dX0_sizeOfSide_30 : decode cX0_sizeOfSide 30 = .ok (.iadd, 1) := by decide +kernel
theorem dX0_sizeOfSide_31 : decode cX0_sizeOfSide 31 = .ok (.istore_n 2, 1) := by decide +kernel
theorem dX0_sizeOfSide_32 : decode cX0_sizeOfSide 32 = .ok (.iinc 3 1, 3) := by decide +kernel
theorem dX0_sizeOfSide_35 : decode cX0_sizeOfSide 35 = .ok (.goto (-31), 3) := by decide +kernel
theorem dX0_sizeOfSide_38 : decode cX0_sizeOfSide 38 = .ok (.iload_n 2, 1) := by decide +kernel
theorem dX0_sizeOfSide_39 : decode cX0_sizeOfSide 39 = .ok (.ireturn, 1) := by decide +kernel
set_option maxRecDepth 20000 in
theorem ggX0_signsKnownTo_X0_sideOf : GoodIn wsX0_signsKnownTo wsX0_sideOf := goodIn_r _ [6, 7, 8, 9, 10, 5, 11, 1, 22, 23, 24, 25] (by decide +kernel) (by decide +kernel)
set_option maxRecDepth 20000 in
theorem gX0_signsKnownTo_X0_sideOf : GoodIn wsX0_signsKnownTo (wsV RX0 36 RX0 yX0_sideOf wsX0_sideOf) := goodIn_app (goodIn_of _ (by decide +kernel)) ggX0_signsKnownTo_X0_sideOf
set_option maxRecDepth 20000 in
theorem ggX0_signsKnownTo_X0_signsOf : GoodIn wsX0_signsKnownTo wsX0_signsOf := goodIn_r _ [15, 16, 8, 9, 10, 5, 11, 1, 7, 22, 23, 24, 25] (by decide +kernel) (by decide +kernel)
set_option maxRecDepth 20000 in
theorem gX0_signsKnownTo_X0_signsOf : GoodIn wsX0_signsKnownTo (wsV RX0 40 RX0 yX0_signsOf wsX0_signsOf) := goodIn_app (goodIn_of _ (by decide +kernel)) ggX0_signsKnownTo_X0_signsOf
set_option maxRecDepth 20000 in
theorem ggX0_signsKnownTo_X0_oppositesOf : GoodIn wsX0_signsKnownTo wsX0_oppositesOf := goodIn_r _ [20, 21, 8, 9, 10, 5, 11, 1, 7, 22, 23, 24, 25] (by decide +kernel) (by decide +kernel)
set_option maxRecDepth 20000 in
theorem gX0_signsKnownTo_X0_oppositesOf : GoodIn wsX0_signsKnownTo (wsV RX0 43 RX0 yX0_oppositesOf wsX0_oppositesOf) := goodIn_app (goodIn_of _ (by decide +kernel)) ggX0_signsKnownTo_X0_oppositesOf
theorem dX0_signsKnownTo_0 : decode cX0_signsKnownTo 0 = .ok (.iconst 0, 1) := by decide +kernel
theorem dX0_signsKnownTo_1 : decode cX0_signsKnownTo 1 = .ok (.istore_n 2, 1) := by decide +kernel
theorem dX0_signsKnownTo_2 : decode cX0_signsKnownTo 2 = .ok (.iconst 0, 1) := by decide +kernel
theorem dX0_signsKnownTo_3 : decode cX0_signsKnownTo 3 = .ok (.istore_n 3, 1) := by decide +kernel
theorem dX0_signsKnownTo_4 : decode cX0_signsKnownTo 4 = .ok (.iload_n 3, 1) := by decide +kernel
theorem dX0_signsKnownTo_5 : decode cX0_signsKnownTo 5 = .ok (.aload_n 0, 1) := by decide +kernel
theorem dX0_signsKnownTo_6 : decode cX0_signsKnownTo 6 = .ok (.getfield 25, 3) := by decide +kernel
theorem dX0_signsKnownTo_9 : decode cX0_signsKnownTo 9 = .ok (.if_icmp .ge 32, 3) := by decide +kernel
theorem dX0_signsKnownTo_12 : decode cX0_signsKnownTo 12 = .ok (.aload_n 0, 1) := by decide +kernel
theorem dX0_signsKnownTo_13 : decode cX0_signsKnownTo 13 = .ok (.iload_n 3, 1) := by decide +kernel
theorem dX0_signsKnownTo_14 : decode cX0_signsKnownTo 14 = .ok (.invokevirtual 36, 3) := by decide +kernel
theorem dX0_signsKnownTo_17 : decode cX0_signsKnownTo 17 = .ok (.iload_n 1, 1) := by decide +kernel
theorem dX0_signsKnownTo_18 : decode cX0_signsKnownTo 18 = .ok (.if_icmp .ne 17, 3) := by decide +kernel
theorem dX0_signsKnownTo_21 : decode cX0_signsKnownTo 21 = .ok (.iload_n 2, 1) := by decide +kernel
theorem dX0_signsKnownTo_22 : decode cX0_signsKnownTo 22 = .ok (.aload_n 0, 1) := by decide +kernel
theorem dX0_signsKnownTo_23 : decode cX0_signsKnownTo 23 = .ok (.iload_n 3, 1) := by decide +kernel
theorem dX0_signsKnownTo_24 : decode cX0_signsKnownTo 24 = .ok (.invokevirtual 40, 3) := by decide +kernel
theorem dX0_signsKnownTo_27 : decode cX0_signsKnownTo 27 = .ok (.aload_n 0, 1) := by decide +kernel
theorem dX0_signsKnownTo_28 : decode cX0_signsKnownTo 28 = .ok (.iload_n 3, 1) := by decide +kernel
theorem dX0_signsKnownTo_29 : decode cX0_signsKnownTo 29 = .ok (.invokevirtual 43, 3) := by decide +kernel
theorem dX0_signsKnownTo_32 : decode cX0_signsKnownTo 32 = .ok (.ior, 1) := by decide +kernel
theorem dX0_signsKnownTo_33 : decode cX0_signsKnownTo 33 = .ok (.ior, 1) := by decide +kernel
theorem dX0_signsKnownTo_34 : decode cX0_signsKnownTo 34 = .ok (.istore_n 2, 1) := by decide +kernel
theorem dX0_signsKnownTo_35 : decode cX0_signsKnownTo 35 = .ok (.iinc 3 1, 3) := by decide +kernel
theorem dX0_signsKnownTo_38 : decode cX0_signsKnownTo 38 = .ok (.goto (-34), 3) := by decide +kernel
theorem dX0_signsKnownTo_41 : decode cX0_signsKnownTo 41 = .ok (.iload_n 2, 1) := by decide +kernel
theorem dX0_signsKnownTo_42 : decode cX0_signsKnownTo 42 = .ok (.ireturn, 1) := by decide +kernel
set_option maxRecDepth 20000 in
theorem ggX0_sharedSigns_X0_signsKnownTo : GoodIn wsX0_sharedSigns wsX0_signsKnownTo := goodIn_r _ [5, 6, 7, 8, 9, 4, 10, 11, 12, 13, 14, 15, 16, 17, 18, 19, 20, 21, 22, 23, 24, 25, 26, 27, 28, 29] (by decide +kernel) (by decide +kernel)
set_option maxRecDepth 20000 in
theorem gX0_sharedSigns_X0_signsKnownTo : GoodIn wsX0_sharedSigns (wsV RX0 63 RX0 yX0_signsKnownTo wsX0_signsKnownTo) := goodIn_app (goodIn_of _ (by decide +kernel)) ggX0_sharedSigns_X0_signsKnownTo
theorem dX0_sharedSigns_0 : decode cX0_sharedSigns 0 = .ok (.aload_n 0, 1) := by decide +kernel
theorem dX0_sharedSigns_1 : decode cX0_sharedSigns 1 = .ok (.iconst 0, 1) := by decide +kernel
theorem dX0_sharedSigns_2 : decode cX0_sharedSigns 2 = .ok (.invokevirtual 63, 3) := by decide +kernel
theorem dX0_sharedSigns_5 : decode cX0_sharedSigns 5 = .ok (.aload_n 0, 1) := by decide +kernel
theorem dX0_sharedSigns_6 : decode cX0_sharedSigns 6 = .ok (.iconst 1, 1) := by decide +kernel
theorem dX0_sharedSigns_7 : decode cX0_sharedSigns 7 = .ok (.invokevirtual 63, 3) := by decide +kernel
theorem dX0_sharedSigns_10 : decode cX0_sharedSigns 10 = .ok (.iand, 1) := by decide +kernel
theorem dX0_sharedSigns_11 : decode cX0_sharedSigns 11 = .ok (.ireturn, 1) := by decide +kernel
set_option maxRecDepth 20000 in
theorem ggX0_worldsOf_X0_signsOf : GoodIn wsX0_worldsOf wsX0_signsOf := goodIn_r _ [5, 6, 7, 8, 9, 4, 10, 11, 12, 29, 30, 31, 32] (by decide +kernel) (by decide +kernel)
set_option maxRecDepth 20000 in
theorem gX0_worldsOf_X0_signsOf : GoodIn wsX0_worldsOf (wsV RX0 40 RX0 yX0_signsOf wsX0_signsOf) := goodIn_app (goodIn_of _ (by decide +kernel)) ggX0_worldsOf_X0_signsOf
set_option maxRecDepth 20000 in
theorem ggX0_worldsOf_X0_oppositesOf : GoodIn wsX0_worldsOf wsX0_oppositesOf := goodIn_r _ [16, 17, 7, 8, 9, 4, 10, 11, 12, 29, 30, 31, 32] (by decide +kernel) (by decide +kernel)
set_option maxRecDepth 20000 in
theorem gX0_worldsOf_X0_oppositesOf : GoodIn wsX0_worldsOf (wsV RX0 43 RX0 yX0_oppositesOf wsX0_oppositesOf) := goodIn_app (goodIn_of _ (by decide +kernel)) ggX0_worldsOf_X0_oppositesOf
set_option maxRecDepth 20000 in
theorem ggX0_worldsOf_X4_worldsOfLiterals : GoodIn wsX0_worldsOf wsX4_worldsOfLiterals := goodIn_r _ [20, 21, 22, 23, 19, 24, 25, 26, 27, 28] (by decide +kernel) (by decide +kernel)
set_option maxRecDepth 20000 in
theorem gX0_worldsOf_X4_worldsOfLiterals_n66 : GoodIn wsX0_worldsOf (wsX4_worldsOfLiterals) := ggX0_worldsOf_X4_worldsOfLiterals
theorem dX0_worldsOf_0 : decode cX0_worldsOf 0 = .ok (.aload_n 0, 1) := by decide +kernel
theorem dX0_worldsOf_1 : decode cX0_worldsOf 1 = .ok (.iload_n 1, 1) := by decide +kernel
theorem dX0_worldsOf_2 : decode cX0_worldsOf 2 = .ok (.invokevirtual 40, 3) := by decide +kernel
theorem dX0_worldsOf_5 : decode cX0_worldsOf 5 = .ok (.aload_n 0, 1) := by decide +kernel
theorem dX0_worldsOf_6 : decode cX0_worldsOf 6 = .ok (.iload_n 1, 1) := by decide +kernel
theorem dX0_worldsOf_7 : decode cX0_worldsOf 7 = .ok (.invokevirtual 43, 3) := by decide +kernel
theorem dX0_worldsOf_10 : decode cX0_worldsOf 10 = .ok (.invokestatic 66, 3) := by decide +kernel
theorem dX0_worldsOf_13 : decode cX0_worldsOf 13 = .ok (.lreturn, 1) := by decide +kernel
set_option maxRecDepth 20000 in
theorem ggX0_worldsOfSide_X0_sideOf : GoodIn wsX0_worldsOfSide wsX0_sideOf := goodIn_r _ [7, 8, 9, 10, 11, 6, 12, 2, 38, 39, 40, 41] (by decide +kernel) (by decide +kernel)
set_option maxRecDepth 20000 in
theorem gX0_worldsOfSide_X0_sideOf : GoodIn wsX0_worldsOfSide (wsV RX0 36 RX0 yX0_sideOf wsX0_sideOf) := goodIn_app (goodIn_of _ (by decide +kernel)) ggX0_worldsOfSide_X0_sideOf
set_option maxRecDepth 20000 in
theorem ggX0_worldsOfSide_X0_worldsOf : GoodIn wsX0_worldsOfSide wsX0_worldsOf := goodIn_r _ [16, 17, 18, 19, 6, 20, 21, 9, 10, 11, 12, 2, 8, 22, 23, 24, 25, 26, 27, 28, 29, 30, 31, 32, 33, 34, 35, 36, 37, 38, 39, 40, 41] (by decide +kernel) (by decide +kernel)
set_option maxRecDepth 20000 in
theorem gX0_worldsOfSide_X0_worldsOf : GoodIn wsX0_worldsOfSide (wsV RX0 72 RX0 yX0_worldsOf wsX0_worldsOf) := goodIn_app (goodIn_of _ (by decide +kernel)) ggX0_worldsOfSide_X0_worldsOf
theorem dX0_worldsOfSide_0 : decode cX0_worldsOfSide 0 = .ok (.ldc2_w 70, 3) := by decide +kernel
theorem dX0_worldsOfSide_3 : decode cX0_worldsOfSide 3 = .ok (.lstore_n 2, 1) := by decide +kernel
theorem dX0_worldsOfSide_4 : decode cX0_worldsOfSide 4 = .ok (.iconst 0, 1) := by decide +kernel
theorem dX0_worldsOfSide_5 : decode cX0_worldsOfSide 5 = .ok (.istore 4, 2) := by decide +kernel
theorem dX0_worldsOfSide_7 : decode cX0_worldsOfSide 7 = .ok (.iload 4, 2) := by decide +kernel
theorem dX0_worldsOfSide_9 : decode cX0_worldsOfSide 9 = .ok (.aload_n 0, 1) := by decide +kernel
theorem dX0_worldsOfSide_10 : decode cX0_worldsOfSide 10 = .ok (.getfield 25, 3) := by decide +kernel
theorem dX0_worldsOfSide_13 : decode cX0_worldsOfSide 13 = .ok (.if_icmp .ge 28, 3) := by decide +kernel
theorem dX0_worldsOfSide_16 : decode cX0_worldsOfSide 16 = .ok (.aload_n 0, 1) := by decide +kernel
theorem dX0_worldsOfSide_17 : decode cX0_worldsOfSide 17 = .ok (.iload 4, 2) := by decide +kernel
theorem dX0_worldsOfSide_19 : decode cX0_worldsOfSide 19 = .ok (.invokevirtual 36, 3) := by decide +kernel
theorem dX0_worldsOfSide_22 : decode cX0_worldsOfSide 22 = .ok (.iload_n 1, 1) := by decide +kernel
theorem dX0_worldsOfSide_23 : decode cX0_worldsOfSide 23 = .ok (.if_icmp .ne 12, 3) := by decide +kernel
theorem dX0_worldsOfSide_26 : decode cX0_worldsOfSide 26 = .ok (.lload_n 2, 1) := by decide +kernel
theorem dX0_worldsOfSide_27 : decode cX0_worldsOfSide 27 = .ok (.aload_n 0, 1) := by decide +kernel
theorem dX0_worldsOfSide_28 : decode cX0_worldsOfSide 28 = .ok (.iload 4, 2) := by decide +kernel
theorem dX0_worldsOfSide_30 : decode cX0_worldsOfSide 30 = .ok (.invokevirtual 72, 3) := by decide +kernel
theorem dX0_worldsOfSide_33 : decode cX0_worldsOfSide 33 = .ok (.land, 1) := by decide +kernel
theorem dX0_worldsOfSide_34 : decode cX0_worldsOfSide 34 = .ok (.lstore_n 2, 1) := by decide +kernel
theorem dX0_worldsOfSide_35 : decode cX0_worldsOfSide 35 = .ok (.iinc 4 1, 3) := by decide +kernel
theorem dX0_worldsOfSide_38 : decode cX0_worldsOfSide 38 = .ok (.goto (-31), 3) := by decide +kernel
theorem dX0_worldsOfSide_41 : decode cX0_worldsOfSide 41 = .ok (.lload_n 2, 1) := by decide +kernel
theorem dX0_worldsOfSide_42 : decode cX0_worldsOfSide 42 = .ok (.lreturn, 1) := by decide +kernel
set_option maxRecDepth 20000 in
theorem ggX0_worldsOfBoth_X0_worldsOfSide : GoodIn wsX0_worldsOfBoth wsX0_worldsOfSide := goodIn_r _ [5, 6, 7, 8, 9, 10, 4, 11, 12, 13, 14, 15, 16, 17, 18, 19, 20, 21, 22, 23, 24, 25, 26, 27, 28, 29, 30, 31, 32, 33, 34, 35, 36, 37, 38, 39, 40, 41, 42, 43, 44, 45] (by decide +kernel) (by decide +kernel)
set_option maxRecDepth 20000 in
theorem gX0_worldsOfBoth_X0_worldsOfSide : GoodIn wsX0_worldsOfBoth (wsV RX0 76 RX0 yX0_worldsOfSide wsX0_worldsOfSide) := goodIn_app (goodIn_of _ (by decide +kernel)) ggX0_worldsOfBoth_X0_worldsOfSide
theorem dX0_worldsOfBoth_0 : decode cX0_worldsOfBoth 0 = .ok (.aload_n 0, 1) := by decide +kernel
theorem dX0_worldsOfBoth_1 : decode cX0_worldsOfBoth 1 = .ok (.iconst 0, 1) := by decide +kernel
theorem dX0_worldsOfBoth_2 : decode cX0_worldsOfBoth 2 = .ok (.invokevirtual 76, 3) := by decide +kernel
theorem dX0_worldsOfBoth_5 : decode cX0_worldsOfBoth 5 = .ok (.aload_n 0, 1) := by decide +kernel
theorem dX0_worldsOfBoth_6 : decode cX0_worldsOfBoth 6 = .ok (.iconst 1, 1) := by decide +kernel
theorem dX0_worldsOfBoth_7 : decode cX0_worldsOfBoth 7 = .ok (.invokevirtual 76, 3) := by decide +kernel
theorem dX0_worldsOfBoth_10 : decode cX0_worldsOfBoth 10 = .ok (.land, 1) := by decide +kernel
theorem dX0_worldsOfBoth_11 : decode cX0_worldsOfBoth 11 = .ok (.lreturn, 1) := by decide +kernel
set_option maxRecDepth 20000 in
theorem ggX0_clash_X0_worldsOfBoth : GoodIn wsX0_clash wsX0_worldsOfBoth := goodIn_r _ [5, 6, 7, 8, 4, 9, 10, 11, 12, 13, 14, 15, 16, 17, 18, 19, 20, 21, 22, 23, 24, 25, 26, 27, 28, 29, 30, 31, 32, 33, 34, 35, 36, 37, 38, 39, 40, 41, 42, 43, 44, 45, 46, 47, 48, 49] (by decide +kernel) (by decide +kernel)
set_option maxRecDepth 20000 in
theorem gX0_clash_X0_worldsOfBoth : GoodIn wsX0_clash (wsV RX0 79 RX0 yX0_worldsOfBoth wsX0_worldsOfBoth) := goodIn_app (goodIn_of _ (by decide +kernel)) ggX0_clash_X0_worldsOfBoth
theorem dX0_clash_0 : decode cX0_clash 0 = .ok (.aload_n 0, 1) := by decide +kernel
theorem dX0_clash_1 : decode cX0_clash 1 = .ok (.invokevirtual 79, 3) := by decide +kernel
theorem dX0_clash_4 : decode cX0_clash 4 = .ok (.lconst 0, 1) := by decide +kernel
theorem dX0_clash_5 : decode cX0_clash 5 = .ok (.lcmp, 1) := by decide +kernel
theorem dX0_clash_6 : decode cX0_clash 6 = .ok (.ifCond .ne 7, 3) := by decide +kernel
theorem dX0_clash_9 : decode cX0_clash 9 = .ok (.iconst 1, 1) := by decide +kernel
theorem dX0_clash_10 : decode cX0_clash 10 = .ok (.goto 4, 3) := by decide +kernel
theorem dX0_clash_13 : decode cX0_clash 13 = .ok (.iconst 0, 1) := by decide +kernel
theorem dX0_clash_14 : decode cX0_clash 14 = .ok (.ireturn, 1) := by decide +kernel
theorem dJ6_bitCount_0f7a4_0 : decode cJ6_bitCount_0f7a4 0 = .ok (.iload_n 0, 1) := by decide +kernel
theorem dJ6_bitCount_0f7a4_1 : decode cJ6_bitCount_0f7a4 1 = .ok (.iload_n 0, 1) := by decide +kernel
theorem dJ6_bitCount_0f7a4_2 : decode cJ6_bitCount_0f7a4 2 = .ok (.iconst 1, 1) := by decide +kernel
theorem dJ6_bitCount_0f7a4_3 : decode cJ6_bitCount_0f7a4 3 = .ok (.iushr, 1) := by decide +kernel
theorem dJ6_bitCount_0f7a4_4 : decode cJ6_bitCount_0f7a4 4 = .ok (.ldc_w 265, 3) := by decide +kernel
theorem dJ6_bitCount_0f7a4_7 : decode cJ6_bitCount_0f7a4 7 = .ok (.iand, 1) := by decide +kernel
theorem dJ6_bitCount_0f7a4_8 : decode cJ6_bitCount_0f7a4 8 = .ok (.isub, 1) := by decide +kernel
theorem dJ6_bitCount_0f7a4_9 : decode cJ6_bitCount_0f7a4 9 = .ok (.istore_n 0, 1) := by decide +kernel
theorem dJ6_bitCount_0f7a4_10 : decode cJ6_bitCount_0f7a4 10 = .ok (.iload_n 0, 1) := by decide +kernel
theorem dJ6_bitCount_0f7a4_11 : decode cJ6_bitCount_0f7a4 11 = .ok (.ldc_w 266, 3) := by decide +kernel
theorem dJ6_bitCount_0f7a4_14 : decode cJ6_bitCount_0f7a4 14 = .ok (.iand, 1) := by decide +kernel
theorem dJ6_bitCount_0f7a4_15 : decode cJ6_bitCount_0f7a4 15 = .ok (.iload_n 0, 1) := by decide +kernel
theorem dJ6_bitCount_0f7a4_16 : decode cJ6_bitCount_0f7a4 16 = .ok (.iconst 2, 1) := by decide +kernel
theorem dJ6_bitCount_0f7a4_17 : decode cJ6_bitCount_0f7a4 17 = .ok (.iushr, 1) := by decide +kernel
theorem dJ6_bitCount_0f7a4_18 : decode cJ6_bitCount_0f7a4 18 = .ok (.ldc_w 266, 3) := by decide +kernel
theorem dJ6_bitCount_0f7a4_21 : decode cJ6_bitCount_0f7a4 21 = .ok (.iand, 1) := by decide +kernel
theorem dJ6_bitCount_0f7a4_22 : decode cJ6_bitCount_0f7a4 22 = .ok (.iadd, 1) := by decide +kernel
theorem dJ6_bitCount_0f7a4_23 : decode cJ6_bitCount_0f7a4 23 = .ok (.istore_n 0, 1) := by decide +kernel
theorem dJ6_bitCount_0f7a4_24 : decode cJ6_bitCount_0f7a4 24 = .ok (.iload_n 0, 1) := by decide +kernel
theorem dJ6_bitCount_0f7a4_25 : decode cJ6_bitCount_0f7a4 25 = .ok (.iload_n 0, 1) := by decide +kernel
theorem dJ6_bitCount_0f7a4_26 : decode cJ6_bitCount_0f7a4 26 = .ok (.iconst 4, 1) := by decide +kernel
theorem dJ6_bitCount_0f7a4_27 : decode cJ6_bitCount_0f7a4 27 = .ok (.iushr, 1) := by decide +kernel
theorem dJ6_bitCount_0f7a4_28 : decode cJ6_bitCount_0f7a4 28 = .ok (.iadd, 1) := by decide +kernel
theorem dJ6_bitCount_0f7a4_29 : decode cJ6_bitCount_0f7a4 29 = .ok (.ldc_w 267, 3) := by decide +kernel
theorem dJ6_bitCount_0f7a4_32 : decode cJ6_bitCount_0f7a4 32 = .ok (.iand, 1) := by decide +kernel
theorem dJ6_bitCount_0f7a4_33 : decode cJ6_bitCount_0f7a4 33 = .ok (.istore_n 0, 1) := by decide +kernel
theorem dJ6_bitCount_0f7a4_34 : decode cJ6_bitCount_0f7a4 34 = .ok (.iload_n 0, 1) := by decide +kernel
theorem dJ6_bitCount_0f7a4_35 : decode cJ6_bitCount_0f7a4 35 = .ok (.iload_n 0, 1) := by decide +kernel
theorem dJ6_bitCount_0f7a4_36 : decode cJ6_bitCount_0f7a4 36 = .ok (.bipush 8, 2) := by decide +kernel
theorem dJ6_bitCount_0f7a4_38 : decode cJ6_bitCount_0f7a4 38 = .ok (.iushr, 1) := by decide +kernel
theorem dJ6_bitCount_0f7a4_39 : decode cJ6_bitCount_0f7a4 39 = .ok (.iadd, 1) := by decide +kernel
theorem dJ6_bitCount_0f7a4_40 : decode cJ6_bitCount_0f7a4 40 = .ok (.istore_n 0, 1) := by decide +kernel
theorem dJ6_bitCount_0f7a4_41 : decode cJ6_bitCount_0f7a4 41 = .ok (.iload_n 0, 1) := by decide +kernel
theorem dJ6_bitCount_0f7a4_42 : decode cJ6_bitCount_0f7a4 42 = .ok (.iload_n 0, 1) := by decide +kernel
theorem dJ6_bitCount_0f7a4_43 : decode cJ6_bitCount_0f7a4 43 = .ok (.bipush 16, 2) := by decide +kernel
theorem dJ6_bitCount_0f7a4_45 : decode cJ6_bitCount_0f7a4 45 = .ok (.iushr, 1) := by decide +kernel
theorem dJ6_bitCount_0f7a4_46 : decode cJ6_bitCount_0f7a4 46 = .ok (.iadd, 1) := by decide +kernel
theorem dJ6_bitCount_0f7a4_47 : decode cJ6_bitCount_0f7a4 47 = .ok (.istore_n 0, 1) := by decide +kernel
theorem dJ6_bitCount_0f7a4_48 : decode cJ6_bitCount_0f7a4 48 = .ok (.iload_n 0, 1) := by decide +kernel
theorem dJ6_bitCount_0f7a4_49 : decode cJ6_bitCount_0f7a4 49 = .ok (.bipush 63, 2) := by decide +kernel
theorem dJ6_bitCount_0f7a4_51 : decode cJ6_bitCount_0f7a4 51 = .ok (.iand, 1) := by decide +kernel
theorem dJ6_bitCount_0f7a4_52 : decode cJ6_bitCount_0f7a4 52 = .ok (.ireturn, 1) := by decide +kernel
theorem dJ13_bitCount_95d88_0 : decode cJ13_bitCount_95d88 0 = .ok (.lload_n 0, 1) := by decide +kernel
theorem dJ13_bitCount_95d88_1 : decode cJ13_bitCount_95d88 1 = .ok (.lload_n 0, 1) := by decide +kernel
theorem dJ13_bitCount_95d88_2 : decode cJ13_bitCount_95d88 2 = .ok (.iconst 1, 1) := by decide +kernel
theorem dJ13_bitCount_95d88_3 : decode cJ13_bitCount_95d88 3 = .ok (.lushr, 1) := by decide +kernel
theorem dJ13_bitCount_95d88_4 : decode cJ13_bitCount_95d88 4 = .ok (.ldc2_w 314, 3) := by decide +kernel
theorem dJ13_bitCount_95d88_7 : decode cJ13_bitCount_95d88 7 = .ok (.land, 1) := by decide +kernel
theorem dJ13_bitCount_95d88_8 : decode cJ13_bitCount_95d88 8 = .ok (.lsub, 1) := by decide +kernel
theorem dJ13_bitCount_95d88_9 : decode cJ13_bitCount_95d88 9 = .ok (.lstore_n 0, 1) := by decide +kernel
theorem dJ13_bitCount_95d88_10 : decode cJ13_bitCount_95d88 10 = .ok (.lload_n 0, 1) := by decide +kernel
theorem dJ13_bitCount_95d88_11 : decode cJ13_bitCount_95d88 11 = .ok (.ldc2_w 316, 3) := by decide +kernel
theorem dJ13_bitCount_95d88_14 : decode cJ13_bitCount_95d88 14 = .ok (.land, 1) := by decide +kernel
theorem dJ13_bitCount_95d88_15 : decode cJ13_bitCount_95d88 15 = .ok (.lload_n 0, 1) := by decide +kernel
theorem dJ13_bitCount_95d88_16 : decode cJ13_bitCount_95d88 16 = .ok (.iconst 2, 1) := by decide +kernel
theorem dJ13_bitCount_95d88_17 : decode cJ13_bitCount_95d88 17 = .ok (.lushr, 1) := by decide +kernel
theorem dJ13_bitCount_95d88_18 : decode cJ13_bitCount_95d88 18 = .ok (.ldc2_w 316, 3) := by decide +kernel
theorem dJ13_bitCount_95d88_21 : decode cJ13_bitCount_95d88 21 = .ok (.land, 1) := by decide +kernel
theorem dJ13_bitCount_95d88_22 : decode cJ13_bitCount_95d88 22 = .ok (.ladd, 1) := by decide +kernel
theorem dJ13_bitCount_95d88_23 : decode cJ13_bitCount_95d88 23 = .ok (.lstore_n 0, 1) := by decide +kernel
theorem dJ13_bitCount_95d88_24 : decode cJ13_bitCount_95d88 24 = .ok (.lload_n 0, 1) := by decide +kernel
theorem dJ13_bitCount_95d88_25 : decode cJ13_bitCount_95d88 25 = .ok (.lload_n 0, 1) := by decide +kernel
theorem dJ13_bitCount_95d88_26 : decode cJ13_bitCount_95d88 26 = .ok (.iconst 4, 1) := by decide +kernel
theorem dJ13_bitCount_95d88_27 : decode cJ13_bitCount_95d88 27 = .ok (.lushr, 1) := by decide +kernel
theorem dJ13_bitCount_95d88_28 : decode cJ13_bitCount_95d88 28 = .ok (.ladd, 1) := by decide +kernel
theorem dJ13_bitCount_95d88_29 : decode cJ13_bitCount_95d88 29 = .ok (.ldc2_w 318, 3) := by decide +kernel
theorem dJ13_bitCount_95d88_32 : decode cJ13_bitCount_95d88 32 = .ok (.land, 1) := by decide +kernel
theorem dJ13_bitCount_95d88_33 : decode cJ13_bitCount_95d88 33 = .ok (.lstore_n 0, 1) := by decide +kernel
theorem dJ13_bitCount_95d88_34 : decode cJ13_bitCount_95d88 34 = .ok (.lload_n 0, 1) := by decide +kernel
theorem dJ13_bitCount_95d88_35 : decode cJ13_bitCount_95d88 35 = .ok (.lload_n 0, 1) := by decide +kernel
theorem dJ13_bitCount_95d88_36 : decode cJ13_bitCount_95d88 36 = .ok (.bipush 8, 2) := by decide +kernel
theorem dJ13_bitCount_95d88_38 : decode cJ13_bitCount_95d88 38 = .ok (.lushr, 1) := by decide +kernel
theorem dJ13_bitCount_95d88_39 : decode cJ13_bitCount_95d88 39 = .ok (.ladd, 1) := by decide +kernel
theorem dJ13_bitCount_95d88_40 : decode cJ13_bitCount_95d88 40 = .ok (.lstore_n 0, 1) := by decide +kernel
theorem dJ13_bitCount_95d88_41 : decode cJ13_bitCount_95d88 41 = .ok (.lload_n 0, 1) := by decide +kernel
theorem dJ13_bitCount_95d88_42 : decode cJ13_bitCount_95d88 42 = .ok (.lload_n 0, 1) := by decide +kernel
theorem dJ13_bitCount_95d88_43 : decode cJ13_bitCount_95d88 43 = .ok (.bipush 16, 2) := by decide +kernel
theorem dJ13_bitCount_95d88_45 : decode cJ13_bitCount_95d88 45 = .ok (.lushr, 1) := by decide +kernel
theorem dJ13_bitCount_95d88_46 : decode cJ13_bitCount_95d88 46 = .ok (.ladd, 1) := by decide +kernel
theorem dJ13_bitCount_95d88_47 : decode cJ13_bitCount_95d88 47 = .ok (.lstore_n 0, 1) := by decide +kernel
theorem dJ13_bitCount_95d88_48 : decode cJ13_bitCount_95d88 48 = .ok (.lload_n 0, 1) := by decide +kernel
theorem dJ13_bitCount_95d88_49 : decode cJ13_bitCount_95d88 49 = .ok (.lload_n 0, 1) := by decide +kernel
theorem dJ13_bitCount_95d88_50 : decode cJ13_bitCount_95d88 50 = .ok (.bipush 32, 2) := by decide +kernel
theorem dJ13_bitCount_95d88_52 : decode cJ13_bitCount_95d88 52 = .ok (.lushr, 1) := by decide +kernel
theorem dJ13_bitCount_95d88_53 : decode cJ13_bitCount_95d88 53 = .ok (.ladd, 1) := by decide +kernel
theorem dJ13_bitCount_95d88_54 : decode cJ13_bitCount_95d88 54 = .ok (.lstore_n 0, 1) := by decide +kernel
theorem dJ13_bitCount_95d88_55 : decode cJ13_bitCount_95d88 55 = .ok (.lload_n 0, 1) := by decide +kernel
theorem dJ13_bitCount_95d88_56 : decode cJ13_bitCount_95d88 56 = .ok (.l2i, 1) := by decide +kernel
theorem dJ13_bitCount_95d88_57 : decode cJ13_bitCount_95d88 57 = .ok (.bipush 127, 2) := by decide +kernel
theorem dJ13_bitCount_95d88_59 : decode cJ13_bitCount_95d88 59 = .ok (.iand, 1) := by decide +kernel
theorem dJ13_bitCount_95d88_60 : decode cJ13_bitCount_95d88 60 = .ok (.ireturn, 1) := by decide +kernel
set_option maxRecDepth 20000 in
theorem ggX1_init_X0_init : GoodIn wsX1_init wsX0_init := goodIn_r _ [11, 12, 2, 3, 13, 14, 15, 16, 17, 18, 19, 20, 21, 24, 25, 26, 27] (by decide +kernel) (by decide +kernel)
set_option maxRecDepth 20000 in
theorem gX1_init_X0_init : GoodIn wsX1_init (wsX0_init) := ggX1_init_X0_init
theorem dX1_init_0 : decode cX1_init 0 = .ok (.aload_n 0, 1) := by decide +kernel
theorem dX1_init_1 : decode cX1_init 1 = .ok (.invokespecial 3, 3) := by decide +kernel
theorem dX1_init_4 : decode cX1_init 4 = .ok (.aload_n 0, 1) := by decide +kernel
theorem dX1_init_5 : decode cX1_init 5 = .ok (.iconst 4, 1) := by decide +kernel
theorem dX1_init_6 : decode cX1_init 6 = .ok (.anewarray 9, 3) := by decide +kernel
theorem dX1_init_9 : decode cX1_init 9 = .ok (.putfield 11, 3) := by decide +kernel
theorem dX1_init_12 : decode cX1_init 12 = .ok (.iconst 0, 1) := by decide +kernel
theorem dX1_init_13 : decode cX1_init 13 = .ok (.istore_n 1, 1) := by decide +kernel
theorem dX1_init_14 : decode cX1_init 14 = .ok (.iload_n 1, 1) := by decide +kernel
theorem dX1_init_15 : decode cX1_init 15 = .ok (.aload_n 0, 1) := by decide +kernel
theorem dX1_init_16 : decode cX1_init 16 = .ok (.getfield 11, 3) := by decide +kernel
theorem dX1_init_19 : decode cX1_init 19 = .ok (.arraylength, 1) := by decide +kernel
theorem dX1_init_20 : decode cX1_init 20 = .ok (.if_icmp .ge 24, 3) := by decide +kernel
theorem dX1_init_23 : decode cX1_init 23 = .ok (.aload_n 0, 1) := by decide +kernel
theorem dX1_init_24 : decode cX1_init 24 = .ok (.getfield 11, 3) := by decide +kernel
theorem dX1_init_27 : decode cX1_init 27 = .ok (.iload_n 1, 1) := by decide +kernel
theorem dX1_init_28 : decode cX1_init 28 = .ok (.new 9, 3) := by decide +kernel
theorem dX1_init_31 : decode cX1_init 31 = .ok (.dup, 1) := by decide +kernel
theorem dX1_init_32 : decode cX1_init 32 = .ok (.bipush 24, 2) := by decide +kernel
theorem dX1_init_34 : decode cX1_init 34 = .ok (.invokespecial 17, 3) := by decide +kernel
theorem dX1_init_37 : decode cX1_init 37 = .ok (.aastore, 1) := by decide +kernel
theorem dX1_init_38 : decode cX1_init 38 = .ok (.iinc 1 1, 3) := by decide +kernel
theorem dX1_init_41 : decode cX1_init 41 = .ok (.goto (-27), 3) := by decide +kernel
theorem dX1_init_44 : decode cX1_init 44 = .ok (.aload_n 0, 1) := by decide +kernel
theorem dX1_init_45 : decode cX1_init 45 = .ok (.iconst 0, 1) := by decide +kernel
theorem dX1_init_46 : decode cX1_init 46 = .ok (.putfield 20, 3) := by decide +kernel
theorem dX1_init_49 : decode cX1_init 49 = .ok (.return_, 1) := by decide +kernel
theorem dX1_size_0 : decode cX1_size 0 = .ok (.aload_n 0, 1) := by decide +kernel
theorem dX1_size_1 : decode cX1_size 1 = .ok (.getfield 20, 3) := by decide +kernel
theorem dX1_size_4 : decode cX1_size 4 = .ok (.ireturn, 1) := by decide +kernel
set_option maxRecDepth 20000 in
theorem ggX1_remember_X1_dropOldest : GoodIn wsX1_remember wsX1_dropOldest := goodIn_r _ [7, 2, 1, 49, 50] (by decide +kernel) (by decide +kernel)
set_option maxRecDepth 20000 in
theorem gX1_remember_X1_dropOldest : GoodIn wsX1_remember (wsV RX1 24 RX1 yX1_dropOldest wsX1_dropOldest) := goodIn_app (goodIn_of _ (by decide +kernel)) ggX1_remember_X1_dropOldest
set_option maxRecDepth 20000 in
theorem ggX1_remember_X0_becomeLike : GoodIn wsX1_remember wsX0_becomeLike := goodIn_r _ [12, 13, 14, 15, 11, 16, 17, 18, 19, 20, 21, 22, 23, 24, 25, 26, 27, 28, 29, 30, 31, 32, 33, 34, 35, 36, 37, 38, 39, 40, 41, 42, 43, 44, 45, 46, 47, 48, 51, 52, 53, 54] (by decide +kernel) (by decide +kernel)
set_option maxRecDepth 20000 in
theorem gX1_remember_X0_becomeLike : GoodIn wsX1_remember (wsV RX1 27 RX0 yX0_becomeLike wsX0_becomeLike) := goodIn_app (goodIn_of _ (by decide +kernel)) ggX1_remember_X0_becomeLike
theorem dX1_remember_0 : decode cX1_remember 0 = .ok (.aload_n 0, 1) := by decide +kernel
theorem dX1_remember_1 : decode cX1_remember 1 = .ok (.getfield 20, 3) := by decide +kernel
theorem dX1_remember_4 : decode cX1_remember 4 = .ok (.aload_n 0, 1) := by decide +kernel
theorem dX1_remember_5 : decode cX1_remember 5 = .ok (.getfield 11, 3) := by decide +kernel
theorem dX1_remember_8 : decode cX1_remember 8 = .ok (.arraylength, 1) := by decide +kernel
theorem dX1_remember_9 : decode cX1_remember 9 = .ok (.if_icmp .lt 15, 3) := by decide +kernel
theorem dX1_remember_12 : decode cX1_remember 12 = .ok (.aload_n 0, 1) := by decide +kernel
theorem dX1_remember_13 : decode cX1_remember 13 = .ok (.getfield 11, 3) := by decide +kernel
theorem dX1_remember_16 : decode cX1_remember 16 = .ok (.arraylength, 1) := by decide +kernel
theorem dX1_remember_17 : decode cX1_remember 17 = .ok (.ifCond .le 7, 3) := by decide +kernel
theorem dX1_remember_20 : decode cX1_remember 20 = .ok (.aload_n 0, 1) := by decide +kernel
theorem dX1_remember_21 : decode cX1_remember 21 = .ok (.invokevirtual 24, 3) := by decide +kernel
theorem dX1_remember_24 : decode cX1_remember 24 = .ok (.aload_n 0, 1) := by decide +kernel
theorem dX1_remember_25 : decode cX1_remember 25 = .ok (.getfield 20, 3) := by decide +kernel
theorem dX1_remember_28 : decode cX1_remember 28 = .ok (.ifCond .lt 50, 3) := by decide +kernel
theorem dX1_remember_31 : decode cX1_remember 31 = .ok (.aload_n 0, 1) := by decide +kernel
theorem dX1_remember_32 : decode cX1_remember 32 = .ok (.getfield 20, 3) := by decide +kernel
theorem dX1_remember_35 : decode cX1_remember 35 = .ok (.aload_n 0, 1) := by decide +kernel
theorem dX1_remember_36 : decode cX1_remember 36 = .ok (.getfield 11, 3) := by decide +kernel
theorem dX1_remember_39 : decode cX1_remember 39 = .ok (.arraylength, 1) := by decide +kernel
theorem dX1_remember_40 : decode cX1_remember 40 = .ok (.if_icmp .ge 38, 3) := by decide +kernel
theorem dX1_remember_43 : decode cX1_remember 43 = .ok (.aload_n 0, 1) := by decide +kernel
theorem dX1_remember_44 : decode cX1_remember 44 = .ok (.getfield 11, 3) := by decide +kernel
theorem dX1_remember_47 : decode cX1_remember 47 = .ok (.aload_n 0, 1) := by decide +kernel
theorem dX1_remember_48 : decode cX1_remember 48 = .ok (.getfield 20, 3) := by decide +kernel
theorem dX1_remember_51 : decode cX1_remember 51 = .ok (.aaload, 1) := by decide +kernel
theorem dX1_remember_52 : decode cX1_remember 52 = .ok (.ifnull 26, 3) := by decide +kernel
theorem dX1_remember_55 : decode cX1_remember 55 = .ok (.aload_n 0, 1) := by decide +kernel
theorem dX1_remember_56 : decode cX1_remember 56 = .ok (.getfield 11, 3) := by decide +kernel
theorem dX1_remember_59 : decode cX1_remember 59 = .ok (.aload_n 0, 1) := by decide +kernel
theorem dX1_remember_60 : decode cX1_remember 60 = .ok (.getfield 20, 3) := by decide +kernel
theorem dX1_remember_63 : decode cX1_remember 63 = .ok (.aaload, 1) := by decide +kernel
theorem dX1_remember_64 : decode cX1_remember 64 = .ok (.aload_n 1, 1) := by decide +kernel
theorem dX1_remember_65 : decode cX1_remember 65 = .ok (.invokevirtual 27, 3) := by decide +kernel
theorem dX1_remember_68 : decode cX1_remember 68 = .ok (.aload_n 0, 1) := by decide +kernel
theorem dX1_remember_69 : decode cX1_remember 69 = .ok (.dup, 1) := by decide +kernel
theorem dX1_remember_70 : decode cX1_remember 70 = .ok (.getfield 20, 3) := by decide +kernel
theorem dX1_remember_73 : decode cX1_remember 73 = .ok (.iconst 1, 1) := by decide +kernel
theorem dX1_remember_74 : decode cX1_remember 74 = .ok (.iadd, 1) := by decide +kernel
theorem dX1_remember_75 : decode cX1_remember 75 = .ok (.putfield 20, 3) := by decide +kernel
theorem dX1_remember_78 : decode cX1_remember 78 = .ok (.return_, 1) := by decide +kernel
set_option maxRecDepth 20000 in
theorem ggX1_takeLatestInto_X0_becomeLike : GoodIn wsX1_takeLatestInto wsX0_becomeLike := goodIn_r _ [7, 8, 9, 10, 6, 11, 12, 13, 14, 15, 16, 17, 18, 19, 20, 21, 22, 23, 24, 25, 26, 27, 28, 29, 30, 31, 32, 33, 34, 35, 36, 37, 38, 39, 40, 41, 42, 43, 46, 47, 48, 49] (by decide +kernel) (by decide +kernel)
set_option maxRecDepth 20000 in
theorem gX1_takeLatestInto_X0_becomeLike : GoodIn wsX1_takeLatestInto (wsV RX1 27 RX0 yX0_becomeLike wsX0_becomeLike) := goodIn_app (goodIn_of _ (by decide +kernel)) ggX1_takeLatestInto_X0_becomeLike
theorem dX1_takeLatestInto_0 : decode cX1_takeLatestInto 0 = .ok (.aload_n 0, 1) := by decide +kernel
theorem dX1_takeLatestInto_1 : decode cX1_takeLatestInto 1 = .ok (.getfield 20, 3) := by decide +kernel
theorem dX1_takeLatestInto_4 : decode cX1_takeLatestInto 4 = .ok (.iconst 1, 1) := by decide +kernel
theorem dX1_takeLatestInto_5 : decode cX1_takeLatestInto 5 = .ok (.isub, 1) := by decide +kernel
theorem dX1_takeLatestInto_6 : decode cX1_takeLatestInto 6 = .ok (.istore_n 2, 1) := by decide +kernel
theorem dX1_takeLatestInto_7 : decode cX1_takeLatestInto 7 = .ok (.iload_n 2, 1) := by decide +kernel
theorem dX1_takeLatestInto_8 : decode cX1_takeLatestInto 8 = .ok (.ifCond .lt 36, 3) := by decide +kernel
theorem dX1_takeLatestInto_11 : decode cX1_takeLatestInto 11 = .ok (.iload_n 2, 1) := by decide +kernel
theorem dX1_takeLatestInto_12 : decode cX1_takeLatestInto 12 = .ok (.aload_n 0, 1) := by decide +kernel
theorem dX1_takeLatestInto_13 : decode cX1_takeLatestInto 13 = .ok (.getfield 11, 3) := by decide +kernel
theorem dX1_takeLatestInto_16 : decode cX1_takeLatestInto 16 = .ok (.arraylength, 1) := by decide +kernel
theorem dX1_takeLatestInto_17 : decode cX1_takeLatestInto 17 = .ok (.if_icmp .ge 27, 3) := by decide +kernel
theorem dX1_takeLatestInto_20 : decode cX1_takeLatestInto 20 = .ok (.aload_n 0, 1) := by decide +kernel
theorem dX1_takeLatestInto_21 : decode cX1_takeLatestInto 21 = .ok (.getfield 11, 3) := by decide +kernel
theorem dX1_takeLatestInto_24 : decode cX1_takeLatestInto 24 = .ok (.iload_n 2, 1) := by decide +kernel
theorem dX1_takeLatestInto_25 : decode cX1_takeLatestInto 25 = .ok (.aaload, 1) := by decide +kernel
theorem dX1_takeLatestInto_26 : decode cX1_takeLatestInto 26 = .ok (.ifnull 18, 3) := by decide +kernel
theorem dX1_takeLatestInto_29 : decode cX1_takeLatestInto 29 = .ok (.aload_n 1, 1) := by decide +kernel
theorem dX1_takeLatestInto_30 : decode cX1_takeLatestInto 30 = .ok (.aload_n 0, 1) := by decide +kernel
theorem dX1_takeLatestInto_31 : decode cX1_takeLatestInto 31 = .ok (.getfield 11, 3) := by decide +kernel
theorem dX1_takeLatestInto_34 : decode cX1_takeLatestInto 34 = .ok (.iload_n 2, 1) := by decide +kernel
theorem dX1_takeLatestInto_35 : decode cX1_takeLatestInto 35 = .ok (.aaload, 1) := by decide +kernel
theorem dX1_takeLatestInto_36 : decode cX1_takeLatestInto 36 = .ok (.invokevirtual 27, 3) := by decide +kernel
theorem dX1_takeLatestInto_39 : decode cX1_takeLatestInto 39 = .ok (.aload_n 0, 1) := by decide +kernel
theorem dX1_takeLatestInto_40 : decode cX1_takeLatestInto 40 = .ok (.iload_n 2, 1) := by decide +kernel
theorem dX1_takeLatestInto_41 : decode cX1_takeLatestInto 41 = .ok (.putfield 20, 3) := by decide +kernel
theorem dX1_takeLatestInto_44 : decode cX1_takeLatestInto 44 = .ok (.return_, 1) := by decide +kernel
theorem dX1_dropOldest_0 : decode cX1_dropOldest 0 = .ok (.aload_n 0, 1) := by decide +kernel
theorem dX1_dropOldest_1 : decode cX1_dropOldest 1 = .ok (.getfield 11, 3) := by decide +kernel
theorem dX1_dropOldest_4 : decode cX1_dropOldest 4 = .ok (.iconst 0, 1) := by decide +kernel
theorem dX1_dropOldest_5 : decode cX1_dropOldest 5 = .ok (.aaload, 1) := by decide +kernel
theorem dX1_dropOldest_6 : decode cX1_dropOldest 6 = .ok (.astore_n 1, 1) := by decide +kernel
theorem dX1_dropOldest_7 : decode cX1_dropOldest 7 = .ok (.iconst 1, 1) := by decide +kernel
theorem dX1_dropOldest_8 : decode cX1_dropOldest 8 = .ok (.istore_n 2, 1) := by decide +kernel
theorem dX1_dropOldest_9 : decode cX1_dropOldest 9 = .ok (.iload_n 2, 1) := by decide +kernel
theorem dX1_dropOldest_10 : decode cX1_dropOldest 10 = .ok (.aload_n 0, 1) := by decide +kernel
theorem dX1_dropOldest_11 : decode cX1_dropOldest 11 = .ok (.getfield 11, 3) := by decide +kernel
theorem dX1_dropOldest_14 : decode cX1_dropOldest 14 = .ok (.arraylength, 1) := by decide +kernel
theorem dX1_dropOldest_15 : decode cX1_dropOldest 15 = .ok (.if_icmp .ge 23, 3) := by decide +kernel
theorem dX1_dropOldest_18 : decode cX1_dropOldest 18 = .ok (.aload_n 0, 1) := by decide +kernel
theorem dX1_dropOldest_19 : decode cX1_dropOldest 19 = .ok (.getfield 11, 3) := by decide +kernel
theorem dX1_dropOldest_22 : decode cX1_dropOldest 22 = .ok (.iload_n 2, 1) := by decide +kernel
theorem dX1_dropOldest_23 : decode cX1_dropOldest 23 = .ok (.iconst 1, 1) := by decide +kernel
theorem dX1_dropOldest_24 : decode cX1_dropOldest 24 = .ok (.isub, 1) := by decide +kernel
theorem dX1_dropOldest_25 : decode cX1_dropOldest 25 = .ok (.aload_n 0, 1) := by decide +kernel
theorem dX1_dropOldest_26 : decode cX1_dropOldest 26 = .ok (.getfield 11, 3) := by decide +kernel
theorem dX1_dropOldest_29 : decode cX1_dropOldest 29 = .ok (.iload_n 2, 1) := by decide +kernel
theorem dX1_dropOldest_30 : decode cX1_dropOldest 30 = .ok (.aaload, 1) := by decide +kernel
theorem dX1_dropOldest_31 : decode cX1_dropOldest 31 = .ok (.aastore, 1) := by decide +kernel
theorem dX1_dropOldest_32 : decode cX1_dropOldest 32 = .ok (.iinc 2 1, 3) := by decide +kernel
theorem dX1_dropOldest_35 : decode cX1_dropOldest 35 = .ok (.goto (-26), 3) := by decide +kernel
theorem dX1_dropOldest_38 : decode cX1_dropOldest 38 = .ok (.aload_n 0, 1) := by decide +kernel
theorem dX1_dropOldest_39 : decode cX1_dropOldest 39 = .ok (.getfield 11, 3) := by decide +kernel
theorem dX1_dropOldest_42 : decode cX1_dropOldest 42 = .ok (.aload_n 0, 1) := by decide +kernel
theorem dX1_dropOldest_43 : decode cX1_dropOldest 43 = .ok (.getfield 11, 3) := by decide +kernel
theorem dX1_dropOldest_46 : decode cX1_dropOldest 46 = .ok (.arraylength, 1) := by decide +kernel
theorem dX1_dropOldest_47 : decode cX1_dropOldest 47 = .ok (.iconst 1, 1) := by decide +kernel
theorem dX1_dropOldest_48 : decode cX1_dropOldest 48 = .ok (.isub, 1) := by decide +kernel
theorem dX1_dropOldest_49 : decode cX1_dropOldest 49 = .ok (.aload_n 1, 1) := by decide +kernel
theorem dX1_dropOldest_50 : decode cX1_dropOldest 50 = .ok (.aastore, 1) := by decide +kernel
theorem dX1_dropOldest_51 : decode cX1_dropOldest 51 = .ok (.aload_n 0, 1) := by decide +kernel
theorem dX1_dropOldest_52 : decode cX1_dropOldest 52 = .ok (.dup, 1) := by decide +kernel
theorem dX1_dropOldest_53 : decode cX1_dropOldest 53 = .ok (.getfield 20, 3) := by decide +kernel
theorem dX1_dropOldest_56 : decode cX1_dropOldest 56 = .ok (.iconst 1, 1) := by decide +kernel
theorem dX1_dropOldest_57 : decode cX1_dropOldest 57 = .ok (.isub, 1) := by decide +kernel
theorem dX1_dropOldest_58 : decode cX1_dropOldest 58 = .ok (.putfield 20, 3) := by decide +kernel
theorem dX1_dropOldest_61 : decode cX1_dropOldest 61 = .ok (.return_, 1) := by decide +kernel
theorem dX4_isZeroOrOne_0 : decode cX4_isZeroOrOne 0 = .ok (.iload_n 0, 1) := by decide +kernel
theorem dX4_isZeroOrOne_1 : decode cX4_isZeroOrOne 1 = .ok (.ifCond .eq 8, 3) := by decide +kernel
theorem dX4_isZeroOrOne_4 : decode cX4_isZeroOrOne 4 = .ok (.iload_n 0, 1) := by decide +kernel
theorem dX4_isZeroOrOne_5 : decode cX4_isZeroOrOne 5 = .ok (.iconst 1, 1) := by decide +kernel
theorem dX4_isZeroOrOne_6 : decode cX4_isZeroOrOne 6 = .ok (.if_icmp .ne 7, 3) := by decide +kernel
theorem dX4_isZeroOrOne_9 : decode cX4_isZeroOrOne 9 = .ok (.iconst 1, 1) := by decide +kernel
theorem dX4_isZeroOrOne_10 : decode cX4_isZeroOrOne 10 = .ok (.goto 4, 3) := by decide +kernel
theorem dX4_isZeroOrOne_13 : decode cX4_isZeroOrOne 13 = .ok (.iconst 0, 1) := by decide +kernel
theorem dX4_isZeroOrOne_14 : decode cX4_isZeroOrOne 14 = .ok (.ireturn, 1) := by decide +kernel
theorem dX4_isSetOfSigns_0 : decode cX4_isSetOfSigns 0 = .ok (.iload_n 0, 1) := by decide +kernel
theorem dX4_isSetOfSigns_1 : decode cX4_isSetOfSigns 1 = .ok (.ifCond .lt 13, 3) := by decide +kernel
theorem dX4_isSetOfSigns_4 : decode cX4_isSetOfSigns 4 = .ok (.iload_n 0, 1) := by decide +kernel
theorem dX4_isSetOfSigns_5 : decode cX4_isSetOfSigns 5 = .ok (.bipush 63, 2) := by decide +kernel
theorem dX4_isSetOfSigns_7 : decode cX4_isSetOfSigns 7 = .ok (.if_icmp .gt 7, 3) := by decide +kernel
theorem dX4_isSetOfSigns_10 : decode cX4_isSetOfSigns 10 = .ok (.iconst 1, 1) := by decide +kernel
theorem dX4_isSetOfSigns_11 : decode cX4_isSetOfSigns 11 = .ok (.goto 4, 3) := by decide +kernel
theorem dX4_isSetOfSigns_14 : decode cX4_isSetOfSigns 14 = .ok (.iconst 0, 1) := by decide +kernel
theorem dX4_isSetOfSigns_15 : decode cX4_isSetOfSigns 15 = .ok (.ireturn, 1) := by decide +kernel
theorem dX4_asNumber_0 : decode cX4_asNumber 0 = .ok (.iload_n 0, 1) := by decide +kernel
theorem dX4_asNumber_1 : decode cX4_asNumber 1 = .ok (.ifCond .eq 7, 3) := by decide +kernel
theorem dX4_asNumber_4 : decode cX4_asNumber 4 = .ok (.iconst 1, 1) := by decide +kernel
theorem dX4_asNumber_5 : decode cX4_asNumber 5 = .ok (.goto 4, 3) := by decide +kernel
theorem dX4_asNumber_8 : decode cX4_asNumber 8 = .ok (.iconst 0, 1) := by decide +kernel
theorem dX4_asNumber_9 : decode cX4_asNumber 9 = .ok (.ireturn, 1) := by decide +kernel
theorem dX4_isIn_0 : decode cX4_isIn 0 = .ok (.iload_n 1, 1) := by decide +kernel
theorem dX4_isIn_1 : decode cX4_isIn 1 = .ok (.iload_n 0, 1) := by decide +kernel
theorem dX4_isIn_2 : decode cX4_isIn 2 = .ok (.ishr, 1) := by decide +kernel
theorem dX4_isIn_3 : decode cX4_isIn 3 = .ok (.iconst 1, 1) := by decide +kernel
theorem dX4_isIn_4 : decode cX4_isIn 4 = .ok (.iand, 1) := by decide +kernel
theorem dX4_isIn_5 : decode cX4_isIn 5 = .ok (.ifCond .eq 7, 3) := by decide +kernel
theorem dX4_isIn_8 : decode cX4_isIn 8 = .ok (.iconst 1, 1) := by decide +kernel
theorem dX4_isIn_9 : decode cX4_isIn 9 = .ok (.goto 4, 3) := by decide +kernel
theorem dX4_isIn_12 : decode cX4_isIn 12 = .ok (.iconst 0, 1) := by decide +kernel
theorem dX4_isIn_13 : decode cX4_isIn 13 = .ok (.ireturn, 1) := by decide +kernel
theorem dX4_halfOf_0 : decode cX4_halfOf 0 = .ok (.iload_n 2, 1) := by decide +kernel
theorem dX4_halfOf_1 : decode cX4_halfOf 1 = .ok (.ifCond .ne 8, 3) := by decide +kernel
theorem dX4_halfOf_4 : decode cX4_halfOf 4 = .ok (.lload_n 0, 1) := by decide +kernel
theorem dX4_halfOf_5 : decode cX4_halfOf 5 = .ok (.l2i, 1) := by decide +kernel
theorem dX4_halfOf_6 : decode cX4_halfOf 6 = .ok (.goto 8, 3) := by decide +kernel
theorem dX4_halfOf_9 : decode cX4_halfOf 9 = .ok (.lload_n 0, 1) := by decide +kernel
theorem dX4_halfOf_10 : decode cX4_halfOf 10 = .ok (.bipush 32, 2) := by decide +kernel
theorem dX4_halfOf_12 : decode cX4_halfOf 12 = .ok (.lushr, 1) := by decide +kernel
theorem dX4_halfOf_13 : decode cX4_halfOf 13 = .ok (.l2i, 1) := by decide +kernel
theorem dX4_halfOf_14 : decode cX4_halfOf 14 = .ok (.ireturn, 1) := by decide +kernel
set_option maxRecDepth 20000 in
theorem ggX4_lowestWorld_J13_bitCount_95d88 : GoodIn wsX4_lowestWorld wsJ13_bitCount_95d88 := goodIn_r _ [4, 5, 6, 7] (by decide +kernel) (by decide +kernel)
set_option maxRecDepth 20000 in
theorem gX4_lowestWorld_J13_bitCount_95d88 : GoodIn wsX4_lowestWorld (va_wsS RX4 134 yJ13_bitCount_95d88 wsJ13_bitCount_95d88) := goodIn_app (goodIn_of _ (by decide +kernel)) ggX4_lowestWorld_J13_bitCount_95d88
theorem dX4_lowestWorld_0 : decode cX4_lowestWorld 0 = .ok (.lload_n 0, 1) := by decide +kernel
theorem dX4_lowestWorld_1 : decode cX4_lowestWorld 1 = .ok (.lconst 0, 1) := by decide +kernel
theorem dX4_lowestWorld_2 : decode cX4_lowestWorld 2 = .ok (.lcmp, 1) := by decide +kernel
theorem dX4_lowestWorld_3 : decode cX4_lowestWorld 3 = .ok (.ifCond .ne 8, 3) := by decide +kernel
theorem dX4_lowestWorld_6 : decode cX4_lowestWorld 6 = .ok (.bipush (-5), 2) := by decide +kernel
theorem dX4_lowestWorld_8 : decode cX4_lowestWorld 8 = .ok (.goto 12, 3) := by decide +kernel
theorem dX4_lowestWorld_11 : decode cX4_lowestWorld 11 = .ok (.lload_n 0, 1) := by decide +kernel
theorem dX4_lowestWorld_12 : decode cX4_lowestWorld 12 = .ok (.lload_n 0, 1) := by decide +kernel
theorem dX4_lowestWorld_13 : decode cX4_lowestWorld 13 = .ok (.lneg, 1) := by decide +kernel
theorem dX4_lowestWorld_14 : decode cX4_lowestWorld 14 = .ok (.land, 1) := by decide +kernel
theorem dX4_lowestWorld_15 : decode cX4_lowestWorld 15 = .ok (.lconst 1, 1) := by decide +kernel
theorem dX4_lowestWorld_16 : decode cX4_lowestWorld 16 = .ok (.lsub, 1) := by decide +kernel
theorem dX4_lowestWorld_17 : decode cX4_lowestWorld 17 = .ok (.invokestatic 134, 3) := by decide +kernel
theorem dX4_lowestWorld_20 : decode cX4_lowestWorld 20 = .ok (.ireturn, 1) := by decide +kernel
theorem dX4_worldsOfSign_0 : decode cX4_worldsOfSign 0 = .ok (.iload_n 0, 1) := by decide +kernel
theorem dX4_worldsOfSign_1 : decode cX4_worldsOfSign 1 = .ok (.ifCond .lt 19, 3) := by decide +kernel
theorem dX4_worldsOfSign_4 : decode cX4_worldsOfSign 4 = .ok (.iload_n 0, 1) := by decide +kernel
theorem dX4_worldsOfSign_5 : decode cX4_worldsOfSign 5 = .ok (.getstatic 212, 3) := by decide +kernel
theorem dX4_worldsOfSign_8 : decode cX4_worldsOfSign 8 = .ok (.arraylength, 1) := by decide +kernel
theorem dX4_worldsOfSign_9 : decode cX4_worldsOfSign 9 = .ok (.if_icmp .ge 11, 3) := by decide +kernel
theorem dX4_worldsOfSign_12 : decode cX4_worldsOfSign 12 = .ok (.getstatic 212, 3) := by decide +kernel
theorem dX4_worldsOfSign_15 : decode cX4_worldsOfSign 15 = .ok (.iload_n 0, 1) := by decide +kernel
theorem dX4_worldsOfSign_16 : decode cX4_worldsOfSign 16 = .ok (.laload, 1) := by decide +kernel
theorem dX4_worldsOfSign_17 : decode cX4_worldsOfSign 17 = .ok (.goto 4, 3) := by decide +kernel
theorem dX4_worldsOfSign_20 : decode cX4_worldsOfSign 20 = .ok (.lconst 0, 1) := by decide +kernel
theorem dX4_worldsOfSign_21 : decode cX4_worldsOfSign 21 = .ok (.lreturn, 1) := by decide +kernel
set_option maxRecDepth 20000 in
theorem ggX4_worldsOfLiterals_X4_isIn : GoodIn wsX4_worldsOfLiterals wsX4_isIn := goodIn_r _ [5] (by decide +kernel) (by decide +kernel)
set_option maxRecDepth 20000 in
theorem gX4_worldsOfLiterals_X4_isIn : GoodIn wsX4_worldsOfLiterals (va_wsS RX4 216 yX4_isIn wsX4_isIn) := goodIn_app (goodIn_of _ (by decide +kernel)) ggX4_worldsOfLiterals_X4_isIn
set_option maxRecDepth 20000 in
theorem ggX4_worldsOfLiterals_X4_worldsOfSign : GoodIn wsX4_worldsOfLiterals wsX4_worldsOfSign := goodIn_r _ [8, 9] (by decide +kernel) (by decide +kernel)
set_option maxRecDepth 20000 in
theorem gX4_worldsOfLiterals_X4_worldsOfSign : GoodIn wsX4_worldsOfLiterals (va_wsS RX4 220 yX4_worldsOfSign wsX4_worldsOfSign) := goodIn_app (goodIn_of _ (by decide +kernel)) ggX4_worldsOfLiterals_X4_worldsOfSign
theorem dX4_worldsOfLiterals_0 : decode cX4_worldsOfLiterals 0 = .ok (.lconst 0, 1) := by decide +kernel
theorem dX4_worldsOfLiterals_1 : decode cX4_worldsOfLiterals 1 = .ok (.lstore_n 2, 1) := by decide +kernel
theorem dX4_worldsOfLiterals_2 : decode cX4_worldsOfLiterals 2 = .ok (.iconst 0, 1) := by decide +kernel
theorem dX4_worldsOfLiterals_3 : decode cX4_worldsOfLiterals 3 = .ok (.istore 4, 2) := by decide +kernel
theorem dX4_worldsOfLiterals_5 : decode cX4_worldsOfLiterals 5 = .ok (.iload 4, 2) := by decide +kernel
theorem dX4_worldsOfLiterals_7 : decode cX4_worldsOfLiterals 7 = .ok (.bipush 6, 2) := by decide +kernel
theorem dX4_worldsOfLiterals_9 : decode cX4_worldsOfLiterals 9 = .ok (.if_icmp .ge 47, 3) := by decide +kernel
theorem dX4_worldsOfLiterals_12 : decode cX4_worldsOfLiterals 12 = .ok (.iload 4, 2) := by decide +kernel
theorem dX4_worldsOfLiterals_14 : decode cX4_worldsOfLiterals 14 = .ok (.iload_n 0, 1) := by decide +kernel
theorem dX4_worldsOfLiterals_15 : decode cX4_worldsOfLiterals 15 = .ok (.invokestatic 216, 3) := by decide +kernel
theorem dX4_worldsOfLiterals_18 : decode cX4_worldsOfLiterals 18 = .ok (.ifCond .eq 11, 3) := by decide +kernel
theorem dX4_worldsOfLiterals_21 : decode cX4_worldsOfLiterals 21 = .ok (.lload_n 2, 1) := by decide +kernel
theorem dX4_worldsOfLiterals_22 : decode cX4_worldsOfLiterals 22 = .ok (.iload 4, 2) := by decide +kernel
theorem dX4_worldsOfLiterals_24 : decode cX4_worldsOfLiterals 24 = .ok (.invokestatic 220, 3) := by decide +kernel
theorem dX4_worldsOfLiterals_27 : decode cX4_worldsOfLiterals 27 = .ok (.lor, 1) := by decide +kernel
theorem dX4_worldsOfLiterals_28 : decode cX4_worldsOfLiterals 28 = .ok (.lstore_n 2, 1) := by decide +kernel
theorem dX4_worldsOfLiterals_29 : decode cX4_worldsOfLiterals 29 = .ok (.iload 4, 2) := by decide +kernel
theorem dX4_worldsOfLiterals_31 : decode cX4_worldsOfLiterals 31 = .ok (.iload_n 1, 1) := by decide +kernel
theorem dX4_worldsOfLiterals_32 : decode cX4_worldsOfLiterals 32 = .ok (.invokestatic 216, 3) := by decide +kernel
theorem dX4_worldsOfLiterals_35 : decode cX4_worldsOfLiterals 35 = .ok (.ifCond .eq 15, 3) := by decide +kernel
theorem dX4_worldsOfLiterals_38 : decode cX4_worldsOfLiterals 38 = .ok (.lload_n 2, 1) := by decide +kernel
theorem dX4_worldsOfLiterals_39 : decode cX4_worldsOfLiterals 39 = .ok (.iload 4, 2) := by decide +kernel
theorem dX4_worldsOfLiterals_41 : decode cX4_worldsOfLiterals 41 = .ok (.invokestatic 220, 3) := by decide +kernel
theorem dX4_worldsOfLiterals_44 : decode cX4_worldsOfLiterals 44 = .ok (.ldc2_w 189, 3) := by decide +kernel
theorem dX4_worldsOfLiterals_47 : decode cX4_worldsOfLiterals 47 = .ok (.lxor, 1) := by decide +kernel
theorem dX4_worldsOfLiterals_48 : decode cX4_worldsOfLiterals 48 = .ok (.lor, 1) := by decide +kernel
theorem dX4_worldsOfLiterals_49 : decode cX4_worldsOfLiterals 49 = .ok (.lstore_n 2, 1) := by decide +kernel
theorem dX4_worldsOfLiterals_50 : decode cX4_worldsOfLiterals 50 = .ok (.iinc 4 1, 3) := by decide +kernel
theorem dX4_worldsOfLiterals_53 : decode cX4_worldsOfLiterals 53 = .ok (.goto (-48), 3) := by decide +kernel
theorem dX4_worldsOfLiterals_56 : decode cX4_worldsOfLiterals 56 = .ok (.lload_n 2, 1) := by decide +kernel
theorem dX4_worldsOfLiterals_57 : decode cX4_worldsOfLiterals 57 = .ok (.lreturn, 1) := by decide +kernel
set_option maxRecDepth 20000 in
theorem ggX4_spread_X4_isIn : GoodIn wsX4_spread wsX4_isIn := goodIn_r _ [5] (by decide +kernel) (by decide +kernel)
set_option maxRecDepth 20000 in
theorem gX4_spread_X4_isIn : GoodIn wsX4_spread (va_wsS RX4 216 yX4_isIn wsX4_isIn) := goodIn_app (goodIn_of _ (by decide +kernel)) ggX4_spread_X4_isIn
set_option maxRecDepth 20000 in
theorem ggX4_spread_X4_worldsOfSign : GoodIn wsX4_spread wsX4_worldsOfSign := goodIn_r _ [8, 9] (by decide +kernel) (by decide +kernel)
set_option maxRecDepth 20000 in
theorem gX4_spread_X4_worldsOfSign : GoodIn wsX4_spread (va_wsS RX4 220 yX4_worldsOfSign wsX4_worldsOfSign) := goodIn_app (goodIn_of _ (by decide +kernel)) ggX4_spread_X4_worldsOfSign
theorem dX4_spread_0 : decode cX4_spread 0 = .ok (.lload_n 0, 1) := by decide +kernel
theorem dX4_spread_1 : decode cX4_spread 1 = .ok (.lstore_n 3, 1) := by decide +kernel
theorem dX4_spread_2 : decode cX4_spread 2 = .ok (.iconst 0, 1) := by decide +kernel
theorem dX4_spread_3 : decode cX4_spread 3 = .ok (.istore 5, 2) := by decide +kernel
theorem dX4_spread_5 : decode cX4_spread 5 = .ok (.iload 5, 2) := by decide +kernel
theorem dX4_spread_7 : decode cX4_spread 7 = .ok (.bipush 6, 2) := by decide +kernel
theorem dX4_spread_9 : decode cX4_spread 9 = .ok (.if_icmp .ge 53, 3) := by decide +kernel
theorem dX4_spread_12 : decode cX4_spread 12 = .ok (.iload 5, 2) := by decide +kernel
theorem dX4_spread_14 : decode cX4_spread 14 = .ok (.iload_n 2, 1) := by decide +kernel
theorem dX4_spread_15 : decode cX4_spread 15 = .ok (.invokestatic 216, 3) := by decide +kernel
theorem dX4_spread_18 : decode cX4_spread 18 = .ok (.ifCond .ne 38, 3) := by decide +kernel
theorem dX4_spread_21 : decode cX4_spread 21 = .ok (.iconst 1, 1) := by decide +kernel
theorem dX4_spread_22 : decode cX4_spread 22 = .ok (.iload 5, 2) := by decide +kernel
theorem dX4_spread_24 : decode cX4_spread 24 = .ok (.ishl, 1) := by decide +kernel
theorem dX4_spread_25 : decode cX4_spread 25 = .ok (.istore 6, 2) := by decide +kernel
theorem dX4_spread_27 : decode cX4_spread 27 = .ok (.iload 5, 2) := by decide +kernel
theorem dX4_spread_29 : decode cX4_spread 29 = .ok (.invokestatic 220, 3) := by decide +kernel
theorem dX4_spread_32 : decode cX4_spread 32 = .ok (.lstore 7, 2) := by decide +kernel
theorem dX4_spread_34 : decode cX4_spread 34 = .ok (.lload_n 3, 1) := by decide +kernel
theorem dX4_spread_35 : decode cX4_spread 35 = .ok (.lload_n 3, 1) := by decide +kernel
theorem dX4_spread_36 : decode cX4_spread 36 = .ok (.lload 7, 2) := by decide +kernel
theorem dX4_spread_38 : decode cX4_spread 38 = .ok (.land, 1) := by decide +kernel
theorem dX4_spread_39 : decode cX4_spread 39 = .ok (.iload 6, 2) := by decide +kernel
theorem dX4_spread_41 : decode cX4_spread 41 = .ok (.lushr, 1) := by decide +kernel
theorem dX4_spread_42 : decode cX4_spread 42 = .ok (.lload_n 3, 1) := by decide +kernel
theorem dX4_spread_43 : decode cX4_spread 43 = .ok (.lload 7, 2) := by decide +kernel
theorem dX4_spread_45 : decode cX4_spread 45 = .ok (.ldc2_w 189, 3) := by decide +kernel
theorem dX4_spread_48 : decode cX4_spread 48 = .ok (.lxor, 1) := by decide +kernel
theorem dX4_spread_49 : decode cX4_spread 49 = .ok (.land, 1) := by decide +kernel
theorem dX4_spread_50 : decode cX4_spread 50 = .ok (.iload 6, 2) := by decide +kernel
theorem dX4_spread_52 : decode cX4_spread 52 = .ok (.lshl, 1) := by decide +kernel
theorem dX4_spread_53 : decode cX4_spread 53 = .ok (.lor, 1) := by decide +kernel
theorem dX4_spread_54 : decode cX4_spread 54 = .ok (.lor, 1) := by decide +kernel
theorem dX4_spread_55 : decode cX4_spread 55 = .ok (.lstore_n 3, 1) := by decide +kernel
theorem dX4_spread_56 : decode cX4_spread 56 = .ok (.iinc 5 1, 3) := by decide +kernel
theorem dX4_spread_59 : decode cX4_spread 59 = .ok (.goto (-54), 3) := by decide +kernel
theorem dX4_spread_62 : decode cX4_spread 62 = .ok (.lload_n 3, 1) := by decide +kernel
theorem dX4_spread_63 : decode cX4_spread 63 = .ok (.lreturn, 1) := by decide +kernel

