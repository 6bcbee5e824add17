set_option maxRecDepth 20000 in
theorem ggL_law_X6_mapped : GoodIn wsL_law wsX6_mapped := goodIn_r _ [682, 95, 83, 97, 88, 71, 96, 84, 233, 234, 235, 5, 236, 237, 238, 239, 496, 497, 498, 499, 101, 82, 85, 72, 260, 261, 262, 263, 69, 500, 501, 502, 503, 100, 74, 75, 77, 504, 505, 506, 507, 81, 78, 367, 368, 369, 370, 79, 405, 406, 407, 408, 409, 410, 411, 412, 89, 413, 414, 415, 416, 70, 417, 418, 419, 508, 509, 510, 511, 90, 512, 513, 514, 515, 516, 517, 518, 519, 520, 521, 522, 523, 524, 525, 526, 527, 683, 684, 685, 686, 687, 688, 689, 690, 721, 722, 723, 724, 725, 726, 727, 728, 729, 730, 731, 732, 733, 734, 735, 736, 737, 738, 739, 740, 741, 742, 743, 744, 745, 746, 747] (by decide +kernel) (by decide +kernel)
set_option maxRecDepth 20000 in
theorem gL_law_X6_mapped : GoodIn wsL_law (wsV RL 133 RX6 yX6_mapped wsX6_mapped) := goodIn_app (goodIn_of _ (by decide +kernel)) ggL_law_X6_mapped
set_option maxRecDepth 20000 in
theorem ggL_law_L_count : GoodIn wsL_law wsL_count := goodIn_ca (goodIn_r _ [693, 210, 694, 695, 696, 2, 697, 223, 224, 16, 215, 113, 31, 24, 283, 715, 716, 717, 718, 719, 720, 748, 749, 750, 751, 752, 753, 759, 760, 761, 762, 763, 764] (by decide +kernel) (by decide +kernel)) (goodIn_sub (fun _ h => List.mem_append_left _ (List.mem_append_right _ h)) (by decide +kernel))
set_option maxRecDepth 20000 in
theorem gL_law_L_count : GoodIn wsL_law (va_wsS RL 134 yL_count wsL_count) := goodIn_app (goodIn_of _ (by decide +kernel)) ggL_law_L_count
set_option maxRecDepth 20000 in
theorem ggL_law_X6_count : GoodIn wsL_law wsX6_count := goodIn_r _ [701, 95, 96, 97, 99, 100, 237, 238, 5, 239, 721, 722, 723, 724, 725, 726, 727, 728, 729, 730, 731, 732, 733, 734, 735, 736, 737, 738, 739, 740, 741, 742, 743, 744, 745, 746, 747] (by decide +kernel) (by decide +kernel)
set_option maxRecDepth 20000 in
theorem gL_law_X6_count : GoodIn wsL_law (wsV RL 136 RX6 yX6_count wsX6_count) := goodIn_app (goodIn_of _ (by decide +kernel)) ggL_law_X6_count
set_option maxRecDepth 20000 in
theorem ggL_law_X5_clear : GoodIn wsL_law wsX5_clear := goodIn_r _ [705, 16, 24, 28, 31, 706, 707, 708, 15, 709, 118, 119, 710, 711, 712, 23, 713, 299, 290, 291, 292, 27, 293, 294, 715, 716, 717, 718, 719, 720, 748, 749, 750, 751, 752, 753, 759, 760, 761, 762, 763, 764, 765, 766, 767, 768, 769, 770] (by decide +kernel) (by decide +kernel)
set_option maxRecDepth 20000 in
theorem gL_law_X5_clear : GoodIn wsL_law (wsV RL 137 RX5 yX5_clear wsX5_clear) := goodIn_app (goodIn_of _ (by decide +kernel)) ggL_law_X5_clear
set_option maxRecDepth 20000 in
theorem ggL_law_X6_clear : GoodIn wsL_law wsX6_clear := goodIn_r _ [94, 95, 96, 97, 98, 99, 100, 101, 721, 722, 723, 724, 725, 726, 727, 728, 729, 730, 731, 732, 733, 734, 735, 736, 737, 738, 739, 740, 741, 742, 743, 744, 745, 746, 747] (by decide +kernel) (by decide +kernel)
set_option maxRecDepth 20000 in
theorem gL_law_X6_clear : GoodIn wsL_law (wsV RL 140 RX6 yX6_clear wsX6_clear) := goodIn_app (goodIn_of _ (by decide +kernel)) ggL_law_X6_clear
