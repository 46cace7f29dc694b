set_option maxRecDepth 20000 in
theorem ggL_law_X4_remove : GoodIn wsL_law wsX4_remove := goodIn_r _ [240, 15, 241, 136, 137, 14, 138, 44, 41, 106, 107, 108, 2, 109, 22, 31, 110, 111, 112, 21, 113, 51, 50, 114, 115, 116, 117, 118, 119, 120, 121, 122, 123, 124, 125, 126, 127, 128, 129, 130, 103, 104, 105, 131, 132, 133, 134, 135, 139, 140, 141, 142, 42, 143, 144, 145, 146, 43, 147, 148, 149, 150, 242, 243, 244, 245, 102, 683, 684, 685, 686, 687, 688, 689, 690, 713, 714, 715, 716, 717, 718] (by decide +kernel) (by decide +kernel)
set_option maxRecDepth 20000 in
theorem gL_law_X4_remove : GoodIn wsL_law (wsV RL 23 RX4 yX4_remove wsX4_remove) := goodIn_app (goodIn_of _ (by decide +kernel)) ggL_law_X4_remove
set_option maxRecDepth 20000 in
theorem ggL_law_X5_remove : GoodIn wsL_law wsX5_remove := goodIn_r _ [249, 80, 250, 251, 252, 5, 253, 156, 157, 158, 159, 160, 161, 162, 163, 81, 254, 255, 256, 257, 691, 692, 693, 694, 695, 696, 697, 698, 699, 700, 701, 702, 703, 704, 705, 706, 707, 708, 709, 710, 711, 712] (by decide +kernel) (by decide +kernel)
set_option maxRecDepth 20000 in
theorem gL_law_X5_remove : GoodIn wsL_law (wsV RL 27 RX5 yX5_remove wsX5_remove) := goodIn_app (goodIn_of _ (by decide +kernel)) ggL_law_X5_remove
set_option maxRecDepth 20000 in
theorem ggL_law_X4_move : GoodIn wsL_law wsX4_move := goodIn_r _ [261, 15, 241, 136, 137, 14, 138, 44, 41, 106, 107, 108, 2, 109, 22, 31, 110, 111, 112, 21, 113, 51, 50, 114, 115, 116, 117, 118, 119, 120, 121, 122, 123, 124, 125, 126, 127, 128, 129, 130, 103, 104, 105, 131, 132, 133, 134, 135, 139, 140, 141, 142, 42, 143, 144, 145, 146, 43, 147, 148, 149, 150, 262, 263, 264, 265, 266, 683, 684, 685, 686, 687, 688, 689, 690, 713, 714, 715, 716, 717, 718] (by decide +kernel) (by decide +kernel)
set_option maxRecDepth 20000 in
theorem gL_law_X4_move : GoodIn wsL_law (wsV RL 28 RX4 yX4_move wsX4_move) := goodIn_app (goodIn_of _ (by decide +kernel)) ggL_law_X4_move
set_option maxRecDepth 20000 in
theorem ggL_law_X5_move : GoodIn wsL_law wsX5_move := goodIn_r _ [270, 80, 250, 251, 252, 5, 253, 156, 157, 158, 159, 160, 161, 162, 163, 81, 691, 692, 693, 694, 695, 696, 697, 698, 699, 700, 701, 702, 703, 704, 705, 706, 707, 708, 709, 710, 711, 712] (by decide +kernel) (by decide +kernel)
set_option maxRecDepth 20000 in
theorem gL_law_X5_move : GoodIn wsL_law (wsV RL 31 RX5 yX5_move wsX5_move) := goodIn_app (goodIn_of _ (by decide +kernel)) ggL_law_X5_move
set_option maxRecDepth 20000 in
theorem ggL_law_X4_exchange : GoodIn wsL_law wsX4_exchange := goodIn_r _ [274, 15, 102, 103, 104, 14, 105, 44, 106, 107, 108, 2, 109, 22, 31, 110, 111, 112, 21, 113, 51, 50, 114, 115, 116, 117, 118, 119, 120, 121, 122, 123, 124, 125, 126, 127, 128, 129, 130, 131, 132, 133, 134, 41, 135, 136, 137, 138, 139, 140, 141, 142, 42, 143, 144, 145, 146, 43, 147, 148, 149, 150, 262, 263, 264, 265, 275, 276, 277, 278, 279, 280, 683, 684, 685, 686, 687, 688, 689, 690, 713, 714, 715, 716, 717, 718] (by decide +kernel) (by decide +kernel)
set_option maxRecDepth 20000 in
theorem gL_law_X4_exchange : GoodIn wsL_law (wsV RL 32 RX4 yX4_exchange wsX4_exchange) := goodIn_app (goodIn_of _ (by decide +kernel)) ggL_law_X4_exchange
set_option maxRecDepth 20000 in
theorem ggL_law_X5_exchange : GoodIn wsL_law wsX5_exchange := goodIn_r _ [284, 80, 159, 160, 161, 5, 162, 163, 81, 285, 286, 287, 288, 691, 692, 693, 694, 695, 696, 697, 698, 699, 700, 701, 702, 703, 704, 705, 706, 707, 708, 709, 710, 711, 712] (by decide +kernel) (by decide +kernel)
set_option maxRecDepth 20000 in
theorem gL_law_X5_exchange : GoodIn wsL_law (wsV RL 35 RX5 yX5_exchange wsX5_exchange) := goodIn_app (goodIn_of _ (by decide +kernel)) ggL_law_X5_exchange
