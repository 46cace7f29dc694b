set_option maxRecDepth 20000 in
theorem ggL_law_X4_init : GoodIn wsL_law wsX4_init := goodIn_r _ [8, 9, 10, 11, 12, 13, 14, 15, 16, 17, 18, 19, 20, 21, 22, 23, 24, 25, 26, 27, 28, 29, 30, 31, 32, 33, 34, 35, 36, 37, 38, 39, 40, 41, 42, 43, 44, 45, 46, 47, 48, 49, 50, 51, 52, 53, 54, 55, 56, 57, 58, 59, 60, 61, 62, 63, 64, 65, 66, 67, 68, 69, 70, 71, 72, 73, 74, 75, 713, 714, 715, 716, 683, 684, 685, 686, 687, 688, 689, 690, 717, 718, 719, 720, 721, 722, 723, 724, 725, 726, 727, 728, 729, 730, 731, 732, 733, 734, 735, 736, 737, 738, 739] (by decide +kernel) (by decide +kernel)
set_option maxRecDepth 20000 in
theorem gL_law_X4_init : GoodIn wsL_law (wsX4_init) := ggL_law_X4_init
set_option maxRecDepth 20000 in
theorem ggL_law_X5_init : GoodIn wsL_law wsX5_init := goodIn_r _ [78, 79, 10, 11, 40, 80, 81, 82, 83, 84, 85, 86, 87, 88, 72, 89, 90, 69, 91, 691, 692, 693, 694, 695, 696, 697, 698, 699, 700, 701, 702, 703, 704, 705, 706, 707, 708, 709, 710, 711, 712] (by decide +kernel) (by decide +kernel)
set_option maxRecDepth 20000 in
theorem gL_law_X5_init : GoodIn wsL_law (wsX5_init) := ggL_law_X5_init
set_option maxRecDepth 20000 in
theorem ggL_law_X4_add : GoodIn wsL_law wsX4_add := goodIn_r _ [95, 15, 96, 97, 2, 98, 99, 100, 101, 102, 103, 104, 14, 105, 44, 106, 107, 108, 109, 22, 31, 110, 111, 112, 21, 113, 51, 50, 114, 115, 116, 117, 118, 119, 120, 121, 122, 123, 124, 125, 126, 127, 128, 129, 130, 131, 132, 133, 134, 41, 135, 136, 137, 138, 139, 140, 141, 142, 42, 143, 144, 145, 146, 43, 147, 148, 149, 150, 151, 683, 684, 685, 686, 687, 688, 689, 690, 713, 714, 715, 716, 717, 718] (by decide +kernel) (by decide +kernel)
set_option maxRecDepth 20000 in
theorem gL_law_X4_add : GoodIn wsL_law (wsV RL 13 RX4 yX4_add wsX4_add) := goodIn_app (goodIn_of _ (by decide +kernel)) ggL_law_X4_add
set_option maxRecDepth 20000 in
theorem ggL_law_X5_add : GoodIn wsL_law wsX5_add := goodIn_r _ [155, 80, 156, 157, 5, 158, 159, 160, 161, 162, 163, 81, 164, 165, 166, 167, 691, 692, 693, 694, 695, 696, 697, 698, 699, 700, 701, 702, 703, 704, 705, 706, 707, 708, 709, 710, 711, 712] (by decide +kernel) (by decide +kernel)
set_option maxRecDepth 20000 in
theorem gL_law_X5_add : GoodIn wsL_law (wsV RL 17 RX5 yX5_add wsX5_add) := goodIn_app (goodIn_of _ (by decide +kernel)) ggL_law_X5_add
set_option maxRecDepth 20000 in
theorem ggL_law_X4_addAll : GoodIn wsL_law wsX4_addAll := goodIn_r _ [171, 26, 16, 15, 172, 173, 174, 25, 175, 176, 59, 58, 177, 123, 124, 14, 125, 44, 178, 179, 180, 181, 182, 183, 184, 185, 186, 187, 188, 189, 190, 191, 192, 193, 194, 195, 196, 197, 198, 148, 149, 150, 41, 42, 43, 199, 200, 201, 202, 203, 204, 205, 206, 102, 103, 104, 105, 106, 107, 108, 2, 109, 22, 31, 110, 111, 112, 21, 113, 51, 50, 114, 115, 116, 117, 118, 119, 120, 121, 122, 126, 127, 128, 129, 130, 131, 132, 133, 134, 135, 136, 137, 138, 139, 140, 141, 142, 143, 144, 145, 146, 147, 207, 683, 684, 685, 686, 687, 688, 689, 690, 719, 720, 721, 722, 723, 724, 725, 713, 714, 715, 716, 717, 718] (by decide +kernel) (by decide +kernel)
set_option maxRecDepth 20000 in
theorem gL_law_X4_addAll : GoodIn wsL_law (wsV RL 18 RX4 yX4_addAll wsX4_addAll) := goodIn_app (goodIn_of _ (by decide +kernel)) ggL_law_X4_addAll
set_option maxRecDepth 20000 in
theorem ggL_law_X5_addAll : GoodIn wsL_law wsX5_addAll := goodIn_r _ [211, 212, 213, 80, 214, 215, 216, 5, 217, 218, 219, 220, 221, 222, 223, 224, 225, 226, 227, 228, 83, 229, 230, 231, 232, 156, 157, 158, 233, 234, 235, 236, 164, 165, 166, 167, 159, 160, 161, 162, 163, 81, 691, 692, 693, 694, 695, 696, 697, 698, 699, 700, 701, 702, 703, 704, 705, 706, 707, 708, 709, 710, 711, 712] (by decide +kernel) (by decide +kernel)
set_option maxRecDepth 20000 in
theorem gL_law_X5_addAll : GoodIn wsL_law (wsV RL 22 RX5 yX5_addAll wsX5_addAll) := goodIn_app (goodIn_of _ (by decide +kernel)) ggL_law_X5_addAll
