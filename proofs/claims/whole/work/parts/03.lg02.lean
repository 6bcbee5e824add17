set_option maxRecDepth 20000 in
theorem ggL_law_X6_delay : GoodIn wsL_law wsX6_delay := goodIn_r _ [342, 100, 74, 95, 77, 101, 237, 238, 5, 239, 721, 722, 723, 724, 725, 726, 727, 728, 729, 730, 731, 732, 733, 734, 735, 736, 737, 738, 739, 740, 741, 742, 743, 744, 745, 746, 747] (by decide +kernel) (by decide +kernel)
set_option maxRecDepth 20000 in
theorem gL_law_X6_delay : GoodIn wsL_law (wsV RL 94 RX6 yX6_delay wsX6_delay) := goodIn_app (goodIn_of _ (by decide +kernel)) ggL_law_X6_delay
set_option maxRecDepth 20000 in
theorem ggL_law_L_arrives : GoodIn wsL_law wsL_arrives := goodIn_ca (goodIn_ca (goodIn_r _ [345, 210, 278, 346, 347, 348, 2, 349, 16, 113, 350, 28, 220, 221, 222, 223, 224, 284, 285, 286, 287, 288, 290, 291, 292, 27, 293, 294, 715, 716, 717, 718, 719, 720, 748, 749, 750, 751, 752, 753, 765, 766, 767, 768, 769, 770] (by decide +kernel) (by decide +kernel)) (goodIn_sub (fun _ h => List.mem_append_left _ (List.mem_append_right _ h)) (by decide +kernel))) (goodIn_sub (fun _ h => List.mem_append_right _ h) (by decide +kernel))
set_option maxRecDepth 20000 in
theorem gL_law_L_arrives : GoodIn wsL_law (va_wsS RL 95 yL_arrives wsL_arrives) := goodIn_app (goodIn_of _ (by decide +kernel)) ggL_law_L_arrives
set_option maxRecDepth 20000 in
theorem ggL_law_X6_arrives : GoodIn wsL_law wsX6_arrives := goodIn_r _ [354, 97, 95, 72, 101, 237, 238, 5, 239, 721, 722, 723, 724, 725, 726, 727, 728, 729, 730, 731, 732, 733, 734, 735, 736, 737, 738, 739, 740, 741, 742, 743, 744, 745, 746, 747] (by decide +kernel) (by decide +kernel)
set_option maxRecDepth 20000 in
theorem gL_law_X6_arrives : GoodIn wsL_law (wsV RL 97 RX6 yX6_arrives wsX6_arrives) := goodIn_app (goodIn_of _ (by decide +kernel)) ggL_law_X6_arrives
set_option maxRecDepth 20000 in
theorem ggL_law_L_cuts : GoodIn wsL_law wsL_cuts := goodIn_ca (goodIn_r _ [357, 210, 358, 359, 360, 2, 361, 16, 215, 20, 220, 221, 222, 223, 224, 362, 135, 136, 19, 137, 43, 715, 716, 717, 718, 719, 720, 748, 749, 750, 751, 752, 753, 754, 755, 756, 757, 758] (by decide +kernel) (by decide +kernel)) (goodIn_sub (fun _ h => List.mem_append_left _ (List.mem_append_right _ h)) (by decide +kernel))
set_option maxRecDepth 20000 in
theorem gL_law_L_cuts : GoodIn wsL_law (va_wsS RL 98 yL_cuts wsL_cuts) := goodIn_app (goodIn_of _ (by decide +kernel)) ggL_law_L_cuts
set_option maxRecDepth 20000 in
theorem ggL_law_X6_cuts : GoodIn wsL_law wsX6_cuts := goodIn_r _ [366, 96, 95, 237, 238, 5, 239, 367, 368, 369, 370, 79, 78, 260, 261, 262, 263, 69, 721, 722, 723, 724, 725, 726, 727, 728, 729, 730, 731, 732, 733, 734, 735, 736, 737, 738, 739, 740, 741, 742, 743, 744, 745, 746, 747] (by decide +kernel) (by decide +kernel)
set_option maxRecDepth 20000 in
theorem gL_law_X6_cuts : GoodIn wsL_law (wsV RL 100 RX6 yX6_cuts wsX6_cuts) := goodIn_app (goodIn_of _ (by decide +kernel)) ggL_law_X6_cuts
set_option maxRecDepth 20000 in
theorem ggL_law_L_cut : GoodIn wsL_law wsL_cut := goodIn_ca (goodIn_r _ [373, 210, 374, 375, 376, 2, 377, 20, 378, 379, 380, 381, 382, 223, 224, 16, 215, 220, 221, 222, 362, 135, 136, 19, 137, 43, 383, 143, 144, 145, 45, 715, 716, 717, 718, 719, 720, 748, 749, 750, 751, 752, 753, 754, 755, 756, 757, 758] (by decide +kernel) (by decide +kernel)) (goodIn_sub (fun _ h => List.mem_append_left _ (List.mem_append_right _ h)) (by decide +kernel))
set_option maxRecDepth 20000 in
theorem gL_law_L_cut : GoodIn wsL_law (va_wsS RL 101 yL_cut wsL_cut) := goodIn_app (goodIn_of _ (by decide +kernel)) ggL_law_L_cut
