set_option maxRecDepth 20000 in
theorem ggL_law_X4_shrink : GoodIn wsL_law wsX4_shrink := goodIn_r _ [292, 15, 293, 294, 295, 2, 296, 31, 30, 297, 298, 299, 29, 300, 75, 301, 302, 303, 304, 74, 305, 306, 307, 14, 308, 44, 131, 132, 133, 134, 41, 135, 136, 137, 138, 139, 140, 141, 142, 42, 143, 144, 145, 146, 43, 309, 103, 104, 105, 310, 311, 312, 313, 314, 315, 316, 317, 318, 319, 320, 321, 322, 323, 324, 325, 326, 327, 328, 329, 330, 331, 64, 65, 66, 67, 68, 70, 71, 73, 332, 333, 334, 335, 336, 337, 338, 339, 340, 341, 342, 343, 344, 345, 346, 347, 348, 349, 350, 351, 352, 353, 354, 355, 356, 357, 358, 359, 360, 361, 362, 363, 364, 365, 366, 367, 368, 369, 370, 371, 372, 373, 374, 375, 376, 377, 378, 379, 380, 381, 382, 383, 384, 385, 386, 387, 388, 389, 390, 391, 392, 393, 394, 102, 395, 396, 397, 398, 279, 280, 106, 107, 108, 109, 22, 110, 111, 112, 21, 113, 51, 50, 114, 115, 116, 117, 118, 119, 120, 121, 122, 123, 124, 125, 126, 127, 128, 129, 130, 147, 148, 149, 150, 399, 242, 243, 244, 245, 683, 684, 685, 686, 687, 688, 689, 690, 726, 727, 728, 729, 730, 731, 732, 733, 734, 735, 736, 737, 738, 739, 713, 714, 715, 716, 717, 718] (by decide +kernel) (by decide +kernel)
set_option maxRecDepth 20000 in
theorem gL_law_X4_shrink : GoodIn wsL_law (wsV RL 36 RX4 yX4_shrink wsX4_shrink) := goodIn_app (goodIn_of _ (by decide +kernel)) ggL_law_X4_shrink
set_option maxRecDepth 20000 in
theorem ggL_law_X5_shrink : GoodIn wsL_law wsX5_shrink := goodIn_r _ [403, 80, 89, 404, 405, 406, 5, 407, 90, 408, 409, 410, 84, 85, 86, 87, 411, 412, 413, 414, 88, 415, 416, 417, 418, 419, 420, 421, 159, 160, 161, 162, 163, 81, 254, 255, 256, 257, 691, 692, 693, 694, 695, 696, 697, 698, 699, 700, 701, 702, 703, 704, 705, 706, 707, 708, 709, 710, 711, 712] (by decide +kernel) (by decide +kernel)
set_option maxRecDepth 20000 in
theorem gL_law_X5_shrink : GoodIn wsL_law (wsV RL 39 RX5 yX5_shrink wsX5_shrink) := goodIn_app (goodIn_of _ (by decide +kernel)) ggL_law_X5_shrink
set_option maxRecDepth 20000 in
theorem ggL_law_X4_type : GoodIn wsL_law wsX4_type := goodIn_r _ [425, 26, 426, 427, 428, 25, 429, 59, 58, 430, 431, 432, 433, 683, 684, 685, 686, 687, 688, 689, 690, 719, 720, 721, 722, 723, 724, 725] (by decide +kernel) (by decide +kernel)
set_option maxRecDepth 20000 in
theorem gL_law_X4_type : GoodIn wsL_law (wsV RL 40 RX4 yX4_type wsX4_type) := goodIn_app (goodIn_of _ (by decide +kernel)) ggL_law_X4_type
set_option maxRecDepth 20000 in
theorem ggL_law_X5_type : GoodIn wsL_law wsX5_type := goodIn_r _ [437, 220, 83, 691, 692, 693, 694, 695, 696, 697, 698, 699, 700, 701, 702, 703, 704, 705, 706, 707, 708, 709, 710, 711, 712] (by decide +kernel) (by decide +kernel)
set_option maxRecDepth 20000 in
theorem gL_law_X5_type : GoodIn wsL_law (wsV RL 44 RX5 yX5_type wsX5_type) := goodIn_app (goodIn_of _ (by decide +kernel)) ggL_law_X5_type
set_option maxRecDepth 20000 in
theorem ggL_law_X4_clearText : GoodIn wsL_law wsX4_clearText := goodIn_r _ [441, 26, 430, 431, 432, 25, 433, 59, 442, 443, 444, 445, 683, 684, 685, 686, 687, 688, 689, 690, 719, 720, 721, 722, 723, 724, 725] (by decide +kernel) (by decide +kernel)
set_option maxRecDepth 20000 in
theorem gL_law_X4_clearText : GoodIn wsL_law (wsV RL 45 RX4 yX4_clearText wsX4_clearText) := goodIn_app (goodIn_of _ (by decide +kernel)) ggL_law_X4_clearText
set_option maxRecDepth 20000 in
theorem ggL_law_X5_clearText : GoodIn wsL_law wsX5_clearText := goodIn_r _ [449, 220, 691, 692, 693, 694, 695, 696, 697, 698, 699, 700, 701, 702, 703, 704, 705, 706, 707, 708, 709, 710, 711, 712] (by decide +kernel) (by decide +kernel)
set_option maxRecDepth 20000 in
theorem gL_law_X5_clearText : GoodIn wsL_law (wsV RL 48 RX5 yX5_clearText wsX5_clearText) := goodIn_app (goodIn_of _ (by decide +kernel)) ggL_law_X5_clearText
