set_option maxRecDepth 20000 in
theorem ggL_law_X6_and : GoodIn wsL_law wsX6_and := goodIn_r _ [232, 98, 95, 69, 96, 70, 78, 101, 233, 234, 235, 5, 236, 237, 238, 239, 240, 241, 242, 243, 79, 244, 245, 246, 247, 81, 248, 249, 250, 251, 252, 253, 254, 255, 256, 257, 258, 259, 260, 261, 262, 263, 721, 722, 723, 724, 725, 726, 727, 728, 729, 730, 731, 732, 733, 734, 735, 736, 737, 738, 739, 740, 741, 742, 743, 744, 745, 746, 747] (by decide +kernel) (by decide +kernel)
set_option maxRecDepth 20000 in
theorem gL_law_X6_and : GoodIn wsL_law (wsV RL 83 RX6 yX6_and wsX6_and) := goodIn_app (goodIn_of _ (by decide +kernel)) ggL_law_X6_and
set_option maxRecDepth 20000 in
theorem ggL_law_L_output : GoodIn wsL_law wsL_output := goodIn_ca (goodIn_ca (goodIn_r _ [266, 210, 106, 267, 268, 269, 2, 270, 111, 112, 31, 30, 216, 217, 218, 219, 16, 215, 220, 221, 222, 223, 224, 715, 716, 717, 718, 719, 720, 748, 749, 750, 751, 752, 753] (by decide +kernel) (by decide +kernel)) (goodIn_sub (fun _ h => List.mem_append_left _ (List.mem_append_left _ (List.mem_append_right _ h))) (by decide +kernel))) (goodIn_sub (fun _ h => List.mem_append_left _ (List.mem_append_right _ h)) (by decide +kernel))
set_option maxRecDepth 20000 in
theorem gL_law_L_output : GoodIn wsL_law (va_wsS RL 84 yL_output wsL_output) := goodIn_app (goodIn_of _ (by decide +kernel)) ggL_law_L_output
set_option maxRecDepth 20000 in
theorem ggL_law_X6_output : GoodIn wsL_law wsX6_output := goodIn_r _ [274, 99, 95, 73, 233, 234, 235, 5, 236, 96, 237, 238, 239, 721, 722, 723, 724, 725, 726, 727, 728, 729, 730, 731, 732, 733, 734, 735, 736, 737, 738, 739, 740, 741, 742, 743, 744, 745, 746, 747] (by decide +kernel) (by decide +kernel)
set_option maxRecDepth 20000 in
theorem gL_law_X6_output : GoodIn wsL_law (wsV RL 87 RX6 yX6_output wsX6_output) := goodIn_app (goodIn_of _ (by decide +kernel)) ggL_law_X6_output
set_option maxRecDepth 20000 in
theorem ggL_law_L_cell : GoodIn wsL_law wsL_cell := goodIn_ca (goodIn_ca (goodIn_r _ [277, 106, 278, 279, 280, 281, 2, 282, 111, 112, 24, 283, 28, 284, 285, 286, 287, 288, 289, 188, 189, 190, 290, 291, 292, 27, 293, 294, 295, 296, 297, 23, 298, 299, 51, 52, 53, 55, 300, 301, 302, 303, 54, 304, 305, 306, 307, 308, 309, 310, 311, 312, 313, 314, 315, 316, 317, 318, 319, 320, 321, 715, 716, 717, 718, 719, 720, 759, 760, 761, 762, 763, 764, 765, 766, 767, 768, 769, 770] (by decide +kernel) (by decide +kernel)) (goodIn_sub (fun _ h => List.mem_append_left _ (List.mem_append_left _ (List.mem_append_right _ h))) (by decide +kernel))) (goodIn_sub (fun _ h => List.mem_append_right _ h) (by decide +kernel))
set_option maxRecDepth 20000 in
theorem gL_law_L_cell : GoodIn wsL_law (va_wsS RL 88 yL_cell wsL_cell) := goodIn_app (goodIn_of _ (by decide +kernel)) ggL_law_L_cell
set_option maxRecDepth 20000 in
theorem ggL_law_X6_cell : GoodIn wsL_law wsX6_cell := goodIn_r _ [325, 100, 95, 74, 75, 76, 77, 101, 721, 722, 723, 724, 725, 726, 727, 728, 729, 730, 731, 732, 733, 734, 735, 736, 737, 738, 739, 740, 741, 742, 743, 744, 745, 746, 747] (by decide +kernel) (by decide +kernel)
set_option maxRecDepth 20000 in
theorem gL_law_X6_cell : GoodIn wsL_law (wsV RL 91 RX6 yX6_cell wsX6_cell) := goodIn_app (goodIn_of _ (by decide +kernel)) ggL_law_X6_cell
set_option maxRecDepth 20000 in
theorem ggL_law_L_delay : GoodIn wsL_law wsL_delay := goodIn_ca (goodIn_ca (goodIn_r _ [328, 210, 278, 329, 330, 331, 2, 332, 24, 283, 333, 28, 220, 221, 222, 223, 224, 284, 285, 286, 287, 288, 334, 335, 336, 23, 337, 54, 338, 301, 302, 303, 290, 291, 292, 27, 293, 294, 715, 716, 717, 718, 719, 720, 759, 760, 761, 762, 763, 764, 765, 766, 767, 768, 769, 770] (by decide +kernel) (by decide +kernel)) (goodIn_sub (fun _ h => List.mem_append_left _ (List.mem_append_right _ h)) (by decide +kernel))) (goodIn_sub (fun _ h => List.mem_append_right _ h) (by decide +kernel))
set_option maxRecDepth 20000 in
theorem gL_law_L_delay : GoodIn wsL_law (va_wsS RL 92 yL_delay wsL_delay) := goodIn_app (goodIn_of _ (by decide +kernel)) ggL_law_L_delay
