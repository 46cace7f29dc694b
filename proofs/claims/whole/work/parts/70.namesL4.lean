set_option maxRecDepth 20000 in
theorem ggL_law_X4_undo : GoodIn wsL_law wsX4_undo := goodIn_r _ [453, 22, 15, 31, 454, 455, 456, 21, 457, 51, 458, 459, 460, 461, 50, 118, 119, 120, 14, 121, 122, 123, 124, 125, 44, 126, 127, 128, 129, 130, 103, 104, 105, 131, 132, 133, 134, 41, 135, 136, 137, 138, 139, 140, 141, 142, 42, 143, 144, 145, 146, 43, 147, 148, 149, 150, 683, 684, 685, 686, 687, 688, 689, 690, 717, 718, 713, 714, 715, 716] (by decide +kernel) (by decide +kernel)
set_option maxRecDepth 20000 in
theorem gL_law_X4_undo : GoodIn wsL_law (wsV RL 49 RX4 yX4_undo wsX4_undo) := goodIn_app (goodIn_of _ (by decide +kernel)) ggL_law_X4_undo
set_option maxRecDepth 20000 in
theorem ggL_law_X5_undo : GoodIn wsL_law wsX5_undo := goodIn_r _ [465, 163, 80, 81, 691, 692, 693, 694, 695, 696, 697, 698, 699, 700, 701, 702, 703, 704, 705, 706, 707, 708, 709, 710, 711, 712] (by decide +kernel) (by decide +kernel)
set_option maxRecDepth 20000 in
theorem gL_law_X5_undo : GoodIn wsL_law (wsV RL 52 RX5 yX5_undo wsX5_undo) := goodIn_app (goodIn_of _ (by decide +kernel)) ggL_law_X5_undo
set_option maxRecDepth 20000 in
theorem ggL_law_X4_keep : GoodIn wsL_law wsX4_keep := goodIn_r _ [469, 17, 15, 18, 470, 119, 120, 14, 121, 122, 123, 124, 125, 44, 126, 127, 128, 129, 130, 103, 104, 105, 131, 132, 133, 134, 41, 135, 136, 137, 138, 139, 140, 141, 142, 42, 143, 144, 145, 146, 43, 147, 148, 149, 150, 102, 683, 684, 685, 686, 687, 688, 689, 690, 713, 714, 715, 716] (by decide +kernel) (by decide +kernel)
set_option maxRecDepth 20000 in
theorem gL_law_X4_keep : GoodIn wsL_law (wsV RL 53 RX4 yX4_keep wsX4_keep) := goodIn_app (goodIn_of _ (by decide +kernel)) ggL_law_X4_keep
set_option maxRecDepth 20000 in
theorem ggL_law_X5_keep : GoodIn wsL_law wsX5_keep := goodIn_r _ [474, 82, 80, 475, 691, 692, 693, 694, 695, 696, 697, 698, 699, 700, 701, 702, 703, 704, 705, 706, 707, 708, 709, 710, 711, 712] (by decide +kernel) (by decide +kernel)
set_option maxRecDepth 20000 in
theorem gL_law_X5_keep : GoodIn wsL_law (wsV RL 56 RX5 yX5_keep wsX5_keep) := goodIn_app (goodIn_of _ (by decide +kernel)) ggL_law_X5_keep
set_option maxRecDepth 20000 in
theorem ggL_law_X4_restore : GoodIn wsL_law wsX4_restore := goodIn_r _ [479, 18, 15, 17, 106, 107, 108, 2, 109, 22, 31, 110, 111, 112, 21, 113, 51, 50, 114, 115, 116, 117, 118, 119, 120, 14, 121, 122, 123, 124, 125, 44, 126, 127, 128, 129, 130, 103, 104, 105, 131, 132, 133, 134, 41, 135, 136, 137, 138, 139, 140, 141, 142, 42, 143, 144, 145, 146, 43, 147, 148, 149, 150, 470, 102, 683, 684, 685, 686, 687, 688, 689, 690, 717, 718, 713, 714, 715, 716] (by decide +kernel) (by decide +kernel)
set_option maxRecDepth 20000 in
theorem gL_law_X4_restore : GoodIn wsL_law (wsV RL 57 RX4 yX4_restore wsX4_restore) := goodIn_app (goodIn_of _ (by decide +kernel)) ggL_law_X4_restore
set_option maxRecDepth 20000 in
theorem ggL_law_X5_restore : GoodIn wsL_law wsX5_restore := goodIn_r _ [483, 475, 80, 82, 159, 160, 161, 5, 162, 163, 81, 691, 692, 693, 694, 695, 696, 697, 698, 699, 700, 701, 702, 703, 704, 705, 706, 707, 708, 709, 710, 711, 712] (by decide +kernel) (by decide +kernel)
set_option maxRecDepth 20000 in
theorem gL_law_X5_restore : GoodIn wsL_law (wsV RL 60 RX5 yX5_restore wsX5_restore) := goodIn_app (goodIn_of _ (by decide +kernel)) ggL_law_X5_restore
