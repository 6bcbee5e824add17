set_option maxRecDepth 20000 in
theorem ggL_law_X5_init : GoodIn wsL_law wsX5_init := goodIn_r _ [9, 10, 11, 12, 13, 14, 15, 16, 17, 18, 19, 20, 21, 22, 23, 24, 25, 26, 27, 28, 29, 30, 31, 32, 33, 34, 35, 36, 37, 38, 39, 40, 41, 42, 43, 44, 45, 46, 47, 48, 49, 50, 51, 52, 53, 54, 55, 56, 57, 58, 59, 6, 60, 61, 62, 63, 64, 748, 749, 750, 751, 752, 753, 715, 716, 717, 718, 719, 720, 754, 755, 756, 757, 758, 759, 760, 761, 762, 763, 764, 765, 766, 767, 768, 769, 770] (by decide +kernel) (by decide +kernel)
set_option maxRecDepth 20000 in
theorem gL_law_X5_init : GoodIn wsL_law (wsX5_init) := ggL_law_X5_init
set_option maxRecDepth 20000 in
theorem ggL_law_X6_init : GoodIn wsL_law wsX6_init := goodIn_r _ [67, 68, 11, 12, 29, 69, 70, 71, 72, 73, 74, 75, 76, 77, 78, 79, 80, 81, 82, 83, 84, 85, 86, 87, 88, 89, 90, 91, 92, 93, 5, 94, 95, 96, 97, 98, 99, 100, 101, 721, 722, 723, 724, 725, 726, 727, 728, 729, 730, 731, 732, 733, 734, 735, 736, 737, 738, 739, 740, 741, 742, 743, 744, 745, 746, 747] (by decide +kernel) (by decide +kernel)
set_option maxRecDepth 20000 in
theorem gL_law_X6_init : GoodIn wsL_law (wsX6_init) := ggL_law_X6_init
set_option maxRecDepth 20000 in
theorem ggL_law_L_input : GoodIn wsL_law wsL_input := goodIn_ca (goodIn_r _ [105, 106, 107, 108, 109, 2, 110, 111, 112, 16, 113, 20, 114, 115, 116, 15, 117, 35, 118, 119, 38, 120, 121, 122, 19, 123, 43, 47, 124, 125, 46, 45, 126, 127, 128, 129, 130, 131, 132, 133, 134, 135, 136, 137, 138, 139, 140, 141, 142, 143, 144, 145, 146, 147, 148, 149, 150, 151, 152, 153, 154, 155, 156, 157, 158, 159, 160, 161, 162, 163, 164, 165, 166, 167, 168, 169, 170, 171, 172, 173, 174, 29, 175, 176, 177, 178, 179, 180, 181, 182, 183, 184, 185, 186, 44, 187, 188, 189, 190, 191, 192, 193, 194, 195, 196, 197, 198, 715, 716, 717, 718, 719, 720, 748, 749, 750, 751, 752, 753, 754, 755, 756, 757, 758] (by decide +kernel) (by decide +kernel)) (goodIn_sub (fun _ h => List.mem_append_left _ (List.mem_append_left _ (List.mem_append_right _ h))) (by decide +kernel))
set_option maxRecDepth 20000 in
theorem gL_law_L_input : GoodIn wsL_law (va_wsS RL 71 yL_input wsL_input) := goodIn_app (goodIn_of _ (by decide +kernel)) ggL_law_L_input
set_option maxRecDepth 20000 in
theorem ggL_law_X6_input : GoodIn wsL_law wsX6_input := goodIn_r _ [202, 97, 95, 69, 96, 71, 72, 101, 721, 722, 723, 724, 725, 726, 727, 728, 729, 730, 731, 732, 733, 734, 735, 736, 737, 738, 739, 740, 741, 742, 743, 744, 745, 746, 747] (by decide +kernel) (by decide +kernel)
set_option maxRecDepth 20000 in
theorem gL_law_X6_input : GoodIn wsL_law (wsV RL 76 RX6 yX6_input wsX6_input) := goodIn_app (goodIn_of _ (by decide +kernel)) ggL_law_X6_input
set_option maxRecDepth 20000 in
theorem ggL_law_X6_thrown : GoodIn wsL_law wsX6_thrown := goodIn_r _ [206, 95, 721, 722, 723, 724, 725, 726, 727, 728, 729, 730, 731, 732, 733, 734, 735, 736, 737, 738, 739, 740, 741, 742, 743, 744, 745, 746, 747] (by decide +kernel) (by decide +kernel)
set_option maxRecDepth 20000 in
theorem gL_law_X6_thrown : GoodIn wsL_law (wsV RL 77 RX6 yX6_thrown wsX6_thrown) := goodIn_app (goodIn_of _ (by decide +kernel)) ggL_law_X6_thrown
set_option maxRecDepth 20000 in
theorem ggL_law_L_and : GoodIn wsL_law wsL_and := goodIn_ca (goodIn_ca (goodIn_r _ [209, 210, 106, 211, 212, 213, 2, 214, 111, 112, 16, 215, 113, 20, 216, 217, 218, 219, 220, 221, 222, 223, 224, 225, 226, 227, 15, 228, 35, 118, 36, 37, 120, 121, 122, 19, 123, 43, 47, 124, 125, 46, 45, 126, 127, 128, 129, 130, 131, 132, 133, 134, 135, 136, 137, 138, 139, 140, 141, 142, 143, 144, 145, 146, 147, 148, 149, 150, 151, 152, 153, 154, 155, 156, 157, 158, 159, 160, 161, 162, 163, 164, 165, 166, 167, 168, 169, 170, 171, 172, 173, 174, 29, 175, 176, 177, 178, 179, 180, 181, 182, 183, 184, 185, 186, 44, 187, 188, 189, 190, 191, 192, 193, 194, 195, 196, 197, 198, 715, 716, 717, 718, 719, 720, 748, 749, 750, 751, 752, 753, 754, 755, 756, 757, 758] (by decide +kernel) (by decide +kernel)) (goodIn_sub (fun _ h => List.mem_append_left _ (List.mem_append_left _ (List.mem_append_right _ h))) (by decide +kernel))) (goodIn_sub (fun _ h => List.mem_append_left _ (List.mem_append_right _ h)) (by decide +kernel))
set_option maxRecDepth 20000 in
theorem gL_law_L_and : GoodIn wsL_law (va_wsS RL 80 yL_and wsL_and) := goodIn_app (goodIn_of _ (by decide +kernel)) ggL_law_L_and
