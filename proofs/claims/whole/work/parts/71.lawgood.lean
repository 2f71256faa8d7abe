set_option maxRecDepth 100000 in
theorem ggL_law_X7_init : GoodIn wsL_law wsX7_init := goodIn_r _ [8, 9, 10, 11, 12, 13, 14, 15, 16, 17, 18, 19, 20, 21, 22, 23, 24, 25, 26, 27, 28, 29, 30, 31, 32, 33, 34, 35, 36, 37, 38, 39, 40, 41, 42, 43, 44, 45, 46, 47, 48, 49, 50, 51, 52, 53, 54, 55, 56, 57, 58, 59, 60, 61, 62, 63, 64, 65, 66, 67, 68, 69, 70, 71, 72, 73, 74, 75, 76, 77, 78, 79, 80, 81, 82, 638, 639, 640, 641, 642, 643, 644, 601, 602, 603, 604, 605, 606, 607, 608, 645, 646, 647, 648, 649, 650, 651, 652, 653, 654, 655, 656, 657, 658, 659, 660, 661, 662, 663, 664, 665, 666] rfl (by decide +kernel)
set_option maxRecDepth 100000 in
theorem gL_law_X7_init : GoodIn wsL_law (wsX7_init) := ggL_law_X7_init
set_option maxRecDepth 100000 in
theorem ggL_law_X8_init : GoodIn wsL_law wsX8_init := goodIn_r _ [85, 86, 10, 11, 44, 87, 88, 89, 90, 91, 92, 93, 94, 95, 96, 97, 98, 99, 100, 101, 102, 46, 103, 104, 105, 106, 609, 610, 611, 612, 613, 614, 615, 616, 617, 618, 619, 620, 621, 622, 623, 624, 625, 626, 627, 628, 629, 630, 631, 632, 633, 634, 635, 636, 637] rfl (by decide +kernel)
set_option maxRecDepth 100000 in
theorem gL_law_X8_init : GoodIn wsL_law (wsX8_init) := ggL_law_X8_init
set_option maxRecDepth 100000 in
theorem ggL_law_X7_task : GoodIn wsL_law wsX7_task := goodIn_r _ [110, 15, 111, 27, 112, 113, 2, 114, 115, 116, 117, 26, 118, 119, 120, 121, 122, 14, 123, 124, 45, 49, 50, 601, 602, 603, 604, 605, 606, 607, 608, 638, 639, 640, 641, 642, 643, 644, 650, 651, 652, 653] rfl (by decide +kernel)
set_option maxRecDepth 100000 in
theorem gL_law_X7_task : GoodIn wsL_law (wsV RL 13 RX7 yX7_task wsX7_task) := goodIn_app (goodIn_of _ (by decide +kernel)) ggL_law_X7_task
set_option maxRecDepth 100000 in
theorem ggL_law_X8_task : GoodIn wsL_law wsX8_task := goodIn_r _ [128, 129, 130, 131, 87, 132, 133, 134, 5, 135, 136, 137, 609, 610, 611, 612, 613, 614, 615, 616, 617, 618, 619, 620, 621, 622, 623, 624, 625, 626, 627, 628, 629, 630, 631, 632, 633, 634, 635, 636, 637] rfl (by decide +kernel)
set_option maxRecDepth 100000 in
theorem gL_law_X8_task : GoodIn wsL_law (wsV RL 17 RX8 yX8_task wsX8_task) := goodIn_app (goodIn_of _ (by decide +kernel)) ggL_law_X8_task
set_option maxRecDepth 100000 in
theorem ggL_law_X7_weigh : GoodIn wsL_law wsX7_weigh := goodIn_r _ [141, 15, 27, 142, 143, 144, 145, 14, 146, 124, 112, 113, 2, 114, 147, 148, 149, 26, 150, 64, 151, 152, 153, 154, 45, 155, 156, 157, 158, 47, 48, 49, 50, 159, 160, 161, 162, 163, 65, 164, 63, 13, 119, 165, 166, 167, 168, 41, 42, 43, 10, 11, 44, 46, 601, 602, 603, 604, 605, 606, 607, 608, 638, 639, 640, 641, 642, 643, 644, 650, 651, 652, 653] rfl (by decide +kernel)
set_option maxRecDepth 100000 in
theorem gL_law_X7_weigh : GoodIn wsL_law (wsV RL 18 RX7 yX7_weigh wsX7_weigh) := goodIn_app (goodIn_of _ (by decide +kernel)) ggL_law_X7_weigh
set_option maxRecDepth 100000 in
theorem ggL_law_X8_weigh : GoodIn wsL_law wsX8_weigh := goodIn_r _ [172, 129, 87, 173, 174, 175, 5, 176, 130, 177, 178, 179, 180, 131, 181, 89, 132, 133, 134, 135, 136, 137, 609, 610, 611, 612, 613, 614, 615, 616, 617, 618, 619, 620, 621, 622, 623, 624, 625, 626, 627, 628, 629, 630, 631, 632, 633, 634, 635, 636, 637] rfl (by decide +kernel)
set_option maxRecDepth 100000 in
theorem gL_law_X8_weigh : GoodIn wsL_law (wsV RL 22 RX8 yX8_weigh wsX8_weigh) := goodIn_app (goodIn_of _ (by decide +kernel)) ggL_law_X8_weigh
set_option maxRecDepth 100000 in
theorem ggL_law_X7_tie : GoodIn wsL_law wsX7_tie := goodIn_r _ [185, 15, 27, 186, 187, 188, 14, 189, 190, 144, 145, 146, 124, 147, 148, 149, 26, 150, 64, 151, 152, 153, 154, 45, 155, 156, 157, 158, 47, 48, 49, 50, 159, 191, 192, 193, 2, 194, 31, 195, 19, 196, 197, 198, 199, 200, 201, 202, 203, 204, 205, 206, 207, 208, 209, 210, 211, 212, 213, 214, 215, 216, 217, 218, 30, 219, 70, 220, 166, 167, 168, 221, 69, 222, 223, 224, 225, 226, 227, 228, 229, 230, 231, 232, 233, 234, 235, 236, 237, 238, 239, 240, 18, 241, 242, 243, 244, 245, 246, 247, 248, 249, 250, 251, 252, 253, 54, 254, 255, 256, 257, 258, 259, 260, 261, 262, 263, 264, 265, 266, 40, 267, 268, 269, 270, 160, 161, 162, 163, 65, 164, 63, 13, 119, 165, 41, 42, 43, 10, 11, 44, 46, 601, 602, 603, 604, 605, 606, 607, 608, 638, 639, 640, 641, 642, 643, 644, 650, 651, 652, 653, 654, 655, 656, 645, 646] rfl (by decide +kernel)
set_option maxRecDepth 100000 in
theorem gL_law_X7_tie : GoodIn wsL_law (wsV RL 23 RX7 yX7_tie wsX7_tie) := goodIn_app (goodIn_of _ (by decide +kernel)) ggL_law_X7_tie
set_option maxRecDepth 100000 in
theorem ggL_law_X8_tie : GoodIn wsL_law wsX8_tie := goodIn_r _ [274, 129, 275, 173, 174, 175, 5, 176, 130, 276, 277, 278, 279, 87, 280, 281, 282, 283, 137, 103, 284, 285, 286, 287, 288, 289, 290, 291, 92, 292, 93, 293, 294, 295, 296, 297, 298, 299, 300, 177, 178, 179, 180, 131, 181, 89, 301, 302, 303, 304, 105, 104, 305, 306, 307, 308, 309, 310, 311, 312, 313, 314, 315, 316, 132, 133, 134, 135, 136, 317, 318, 319, 320, 609, 610, 611, 612, 613, 614, 615, 616, 617, 618, 619, 620, 621, 622, 623, 624, 625, 626, 627, 628, 629, 630, 631, 632, 633, 634, 635, 636, 637] rfl (by decide +kernel)
set_option maxRecDepth 100000 in
theorem gL_law_X8_tie : GoodIn wsL_law (wsV RL 26 RX8 yX8_tie wsX8_tie) := goodIn_app (goodIn_of _ (by decide +kernel)) ggL_law_X8_tie
set_option maxRecDepth 100000 in
theorem ggL_law_X7_untie : GoodIn wsL_law wsX7_untie := goodIn_r _ [324, 15, 27, 186, 187, 188, 14, 189, 190, 144, 145, 146, 124, 196, 197, 198, 199, 47, 200, 2, 201, 147, 148, 149, 26, 150, 64, 151, 152, 153, 154, 45, 155, 156, 157, 158, 48, 49, 50, 159, 325, 326, 327, 328, 329, 210, 211, 160, 161, 162, 163, 65, 164, 63, 13, 119, 165, 166, 167, 168, 41, 42, 43, 10, 11, 44, 46, 601, 602, 603, 604, 605, 606, 607, 608, 638, 639, 640, 641, 642, 643, 644, 650, 651, 652, 653] rfl (by decide +kernel)
set_option maxRecDepth 100000 in
theorem gL_law_X7_untie : GoodIn wsL_law (wsV RL 27 RX7 yX7_untie wsX7_untie) := goodIn_app (goodIn_of _ (by decide +kernel)) ggL_law_X7_untie
set_option maxRecDepth 100000 in
theorem ggL_law_X8_untie : GoodIn wsL_law wsX8_untie := goodIn_r _ [333, 129, 87, 173, 174, 175, 5, 176, 130, 276, 277, 278, 279, 177, 178, 179, 180, 131, 181, 89, 132, 133, 134, 135, 136, 137, 609, 610, 611, 612, 613, 614, 615, 616, 617, 618, 619, 620, 621, 622, 623, 624, 625, 626, 627, 628, 629, 630, 631, 632, 633, 634, 635, 636, 637] rfl (by decide +kernel)
set_option maxRecDepth 100000 in
theorem gL_law_X8_untie : GoodIn wsL_law (wsV RL 30 RX8 yX8_untie wsX8_untie) := goodIn_app (goodIn_of _ (by decide +kernel)) ggL_law_X8_untie
set_option maxRecDepth 100000 in
theorem ggL_law_X7_gather : GoodIn wsL_law wsX7_gather := goodIn_r _ [337, 15, 23, 338, 186, 187, 188, 14, 189, 190, 144, 145, 146, 124, 339, 340, 341, 22, 342, 58, 343, 59, 601, 602, 603, 604, 605, 606, 607, 608, 647, 648, 649, 638, 639, 640, 641, 642, 643, 644] rfl (by decide +kernel)
set_option maxRecDepth 100000 in
theorem gL_law_X7_gather : GoodIn wsL_law (wsV RL 31 RX7 yX7_gather wsX7_gather) := goodIn_app (goodIn_of _ (by decide +kernel)) ggL_law_X7_gather
set_option maxRecDepth 100000 in
theorem ggL_law_X8_gather : GoodIn wsL_law wsX8_gather := goodIn_r _ [347, 129, 348, 90, 91, 173, 174, 175, 5, 176, 130, 609, 610, 611, 612, 613, 614, 615, 616, 617, 618, 619, 620, 621, 622, 623, 624, 625, 626, 627, 628, 629, 630, 631, 632, 633, 634, 635, 636, 637] rfl (by decide +kernel)
set_option maxRecDepth 100000 in
theorem gL_law_X8_gather : GoodIn wsL_law (wsV RL 34 RX8 yX8_gather wsX8_gather) := goodIn_app (goodIn_of _ (by decide +kernel)) ggL_law_X8_gather
set_option maxRecDepth 100000 in
theorem ggL_law_X7_commit : GoodIn wsL_law wsX7_commit := goodIn_r _ [352, 27, 15, 23, 338, 266, 147, 148, 149, 26, 150, 64, 151, 152, 153, 14, 154, 45, 155, 156, 157, 158, 47, 48, 49, 50, 124, 159, 353, 354, 355, 2, 356, 357, 358, 191, 192, 193, 194, 31, 195, 19, 196, 197, 198, 199, 200, 201, 202, 203, 204, 205, 206, 207, 208, 209, 210, 211, 212, 213, 214, 215, 216, 217, 218, 30, 219, 70, 220, 166, 167, 168, 221, 69, 222, 223, 224, 225, 226, 227, 228, 229, 230, 231, 232, 233, 234, 235, 236, 237, 238, 239, 240, 18, 241, 242, 243, 244, 245, 246, 247, 248, 249, 250, 251, 252, 253, 54, 254, 255, 256, 257, 258, 259, 260, 261, 359, 262, 263, 264, 265, 40, 267, 268, 269, 270, 160, 161, 162, 163, 65, 164, 63, 13, 119, 165, 41, 42, 43, 10, 11, 44, 46, 601, 602, 603, 604, 605, 606, 607, 608, 647, 648, 649, 650, 651, 652, 653, 638, 639, 640, 641, 642, 643, 644, 654, 655, 656, 645, 646] rfl (by decide +kernel)
set_option maxRecDepth 100000 in
theorem gL_law_X7_commit : GoodIn wsL_law (wsV RL 35 RX7 yX7_commit wsX7_commit) := goodIn_app (goodIn_of _ (by decide +kernel)) ggL_law_X7_commit
set_option maxRecDepth 100000 in
theorem ggL_law_X8_commit : GoodIn wsL_law wsX8_commit := goodIn_r _ [363, 129, 348, 90, 91, 275, 130, 106, 181, 131, 89, 364, 365, 366, 5, 367, 87, 276, 277, 278, 279, 280, 281, 282, 283, 137, 103, 284, 285, 286, 287, 288, 289, 290, 291, 92, 292, 93, 293, 294, 295, 296, 297, 298, 299, 300, 301, 302, 303, 304, 105, 104, 305, 306, 307, 308, 309, 310, 311, 312, 313, 314, 315, 316, 132, 133, 134, 135, 136, 177, 178, 179, 180, 609, 610, 611, 612, 613, 614, 615, 616, 617, 618, 619, 620, 621, 622, 623, 624, 625, 626, 627, 628, 629, 630, 631, 632, 633, 634, 635, 636, 637] rfl (by decide +kernel)
set_option maxRecDepth 100000 in
theorem gL_law_X8_commit : GoodIn wsL_law (wsV RL 39 RX8 yX8_commit wsX8_commit) := goodIn_app (goodIn_of _ (by decide +kernel)) ggL_law_X8_commit
set_option maxRecDepth 100000 in
theorem ggL_law_X7_undo : GoodIn wsL_law wsX7_undo := goodIn_r _ [371, 27, 15, 372, 373, 374, 26, 375, 119, 164, 65, 151, 152, 153, 14, 154, 45, 155, 156, 157, 158, 47, 48, 49, 50, 124, 159, 601, 602, 603, 604, 605, 606, 607, 608, 650, 651, 652, 653, 638, 639, 640, 641, 642, 643, 644] rfl (by decide +kernel)
set_option maxRecDepth 100000 in
theorem gL_law_X7_undo : GoodIn wsL_law (wsV RL 40 RX7 yX7_undo wsX7_undo) := goodIn_app (goodIn_of _ (by decide +kernel)) ggL_law_X7_undo
set_option maxRecDepth 100000 in
theorem ggL_law_X8_undo : GoodIn wsL_law wsX8_undo := goodIn_r _ [379, 129, 131, 181, 87, 89, 132, 133, 134, 5, 135, 136, 137, 609, 610, 611, 612, 613, 614, 615, 616, 617, 618, 619, 620, 621, 622, 623, 624, 625, 626, 627, 628, 629, 630, 631, 632, 633, 634, 635, 636, 637] rfl (by decide +kernel)
set_option maxRecDepth 100000 in
theorem gL_law_X8_undo : GoodIn wsL_law (wsV RL 43 RX8 yX8_undo wsX8_undo) := goodIn_app (goodIn_of _ (by decide +kernel)) ggL_law_X8_undo
set_option maxRecDepth 100000 in
theorem ggL_law_X7_place : GoodIn wsL_law wsX7_place := goodIn_r _ [383, 15, 384, 143, 144, 145, 14, 146, 124, 601, 602, 603, 604, 605, 606, 607, 608, 638, 639, 640, 641, 642, 643, 644] rfl (by decide +kernel)
set_option maxRecDepth 100000 in
theorem gL_law_X7_place : GoodIn wsL_law (wsV RL 44 RX7 yX7_place wsX7_place) := goodIn_app (goodIn_of _ (by decide +kernel)) ggL_law_X7_place
set_option maxRecDepth 100000 in
theorem ggL_law_X8_place : GoodIn wsL_law wsX8_place := goodIn_r _ [388, 129, 173, 174, 175, 5, 176, 130, 305, 306, 307, 308, 87, 609, 610, 611, 612, 613, 614, 615, 616, 617, 618, 619, 620, 621, 622, 623, 624, 625, 626, 627, 628, 629, 630, 631, 632, 633, 634, 635, 636, 637] rfl (by decide +kernel)
set_option maxRecDepth 100000 in
theorem gL_law_X8_place : GoodIn wsL_law (wsV RL 47 RX8 yX8_place wsX8_place) := goodIn_app (goodIn_of _ (by decide +kernel)) ggL_law_X8_place
set_option maxRecDepth 100000 in
theorem ggL_law_X7_at : GoodIn wsL_law wsX7_at := goodIn_r _ [392, 15, 393, 143, 144, 145, 14, 146, 124, 601, 602, 603, 604, 605, 606, 607, 608, 638, 639, 640, 641, 642, 643, 644] rfl (by decide +kernel)
set_option maxRecDepth 100000 in
theorem gL_law_X7_at : GoodIn wsL_law (wsV RL 48 RX7 yX7_at wsX7_at) := goodIn_app (goodIn_of _ (by decide +kernel)) ggL_law_X7_at
set_option maxRecDepth 100000 in
theorem ggL_law_X8_at : GoodIn wsL_law wsX8_at := goodIn_r _ [397, 129, 309, 310, 311, 5, 312, 130, 305, 306, 307, 308, 87, 609, 610, 611, 612, 613, 614, 615, 616, 617, 618, 619, 620, 621, 622, 623, 624, 625, 626, 627, 628, 629, 630, 631, 632, 633, 634, 635, 636, 637] rfl (by decide +kernel)
set_option maxRecDepth 100000 in
theorem gL_law_X8_at : GoodIn wsL_law (wsV RL 51 RX8 yX8_at wsX8_at) := goodIn_app (goodIn_of _ (by decide +kernel)) ggL_law_X8_at
set_option maxRecDepth 100000 in
theorem ggL_law_X7_count : GoodIn wsL_law wsX7_count := goodIn_r _ [401, 15, 111, 195, 23, 338, 27, 402, 31, 403, 40, 35, 404, 405, 406, 407, 14, 408, 124, 409, 197, 198, 199, 47, 200, 2, 201, 410, 411, 412, 413, 329, 49, 210, 211, 212, 213, 214, 215, 50, 48, 414, 415, 416, 34, 417, 418, 419, 420, 421, 422, 423, 424, 74, 425, 426, 427, 167, 428, 429, 430, 431, 432, 433, 75, 601, 602, 603, 604, 605, 606, 607, 608, 638, 639, 640, 641, 642, 643, 644, 647, 648, 649, 650, 651, 652, 653, 654, 655, 656, 657, 658, 659] rfl (by decide +kernel)
set_option maxRecDepth 100000 in
theorem gL_law_X7_count : GoodIn wsL_law (wsV RL 52 RX7 yX7_count wsX7_count) := goodIn_app (goodIn_of _ (by decide +kernel)) ggL_law_X7_count
set_option maxRecDepth 100000 in
theorem ggL_law_X8_count : GoodIn wsL_law wsX8_count := goodIn_r _ [437, 129, 130, 348, 131, 292, 275, 438, 297, 298, 299, 5, 300, 87, 439, 440, 441, 442, 276, 277, 278, 279, 443, 444, 445, 446, 280, 281, 282, 283, 137, 103, 284, 285, 286, 287, 447, 448, 449, 450, 136, 94, 95, 451, 452, 453, 454, 609, 610, 611, 612, 613, 614, 615, 616, 617, 618, 619, 620, 621, 622, 623, 624, 625, 626, 627, 628, 629, 630, 631, 632, 633, 634, 635, 636, 637] rfl (by decide +kernel)
set_option maxRecDepth 100000 in
theorem gL_law_X8_count : GoodIn wsL_law (wsV RL 55 RX8 yX8_count wsX8_count) := goodIn_app (goodIn_of _ (by decide +kernel)) ggL_law_X8_count
set_option maxRecDepth 100000 in
theorem ggL_law_X7_reaches : GoodIn wsL_law wsX7_reaches := goodIn_r _ [458, 15, 186, 187, 188, 14, 189, 190, 144, 145, 146, 124, 202, 203, 204, 205, 49, 206, 207, 208, 209, 210, 2, 211, 212, 213, 214, 215, 50, 48, 200, 201, 601, 602, 603, 604, 605, 606, 607, 608, 638, 639, 640, 641, 642, 643, 644] rfl (by decide +kernel)
set_option maxRecDepth 100000 in
theorem gL_law_X7_reaches : GoodIn wsL_law (wsV RL 56 RX7 yX7_reaches wsX7_reaches) := goodIn_app (goodIn_of _ (by decide +kernel)) ggL_law_X7_reaches
set_option maxRecDepth 100000 in
theorem ggL_law_X8_reaches : GoodIn wsL_law wsX8_reaches := goodIn_r _ [462, 129, 173, 174, 175, 5, 176, 130, 280, 281, 282, 283, 137, 103, 284, 285, 286, 287, 276, 277, 278, 279, 87, 609, 610, 611, 612, 613, 614, 615, 616, 617, 618, 619, 620, 621, 622, 623, 624, 625, 626, 627, 628, 629, 630, 631, 632, 633, 634, 635, 636, 637] rfl (by decide +kernel)
set_option maxRecDepth 100000 in
theorem gL_law_X8_reaches : GoodIn wsL_law (wsV RL 59 RX8 yX8_reaches wsX8_reaches) := goodIn_app (goodIn_of _ (by decide +kernel)) ggL_law_X8_reaches
set_option maxRecDepth 100000 in
theorem ggL_law_X7_tied : GoodIn wsL_law wsX7_tied := goodIn_r _ [466, 15, 186, 187, 188, 14, 189, 190, 144, 145, 146, 124, 196, 197, 198, 199, 47, 200, 2, 201, 467, 411, 412, 413, 329, 49, 210, 211, 212, 213, 214, 215, 50, 48, 601, 602, 603, 604, 605, 606, 607, 608, 638, 639, 640, 641, 642, 643, 644] rfl (by decide +kernel)
set_option maxRecDepth 100000 in
theorem gL_law_X7_tied : GoodIn wsL_law (wsV RL 60 RX7 yX7_tied wsX7_tied) := goodIn_app (goodIn_of _ (by decide +kernel)) ggL_law_X7_tied
set_option maxRecDepth 100000 in
theorem ggL_law_X8_tied : GoodIn wsL_law wsX8_tied := goodIn_r _ [471, 129, 173, 174, 175, 5, 176, 130, 276, 277, 278, 279, 87, 443, 444, 445, 446, 280, 281, 282, 283, 137, 103, 284, 285, 286, 287, 609, 610, 611, 612, 613, 614, 615, 616, 617, 618, 619, 620, 621, 622, 623, 624, 625, 626, 627, 628, 629, 630, 631, 632, 633, 634, 635, 636, 637] rfl (by decide +kernel)
set_option maxRecDepth 100000 in
theorem gL_law_X8_tied : GoodIn wsL_law (wsV RL 63 RX8 yX8_tied wsX8_tied) := goodIn_app (goodIn_of _ (by decide +kernel)) ggL_law_X8_tied
set_option maxRecDepth 100000 in
theorem ggL_law_X7_witness : GoodIn wsL_law wsX7_witness := goodIn_r _ [475, 31, 403, 476, 601, 602, 603, 604, 605, 606, 607, 608, 654, 655, 656] rfl (by decide +kernel)
set_option maxRecDepth 100000 in
theorem gL_law_X7_witness : GoodIn wsL_law (wsV RL 64 RX7 yX7_witness wsX7_witness) := goodIn_app (goodIn_of _ (by decide +kernel)) ggL_law_X7_witness
set_option maxRecDepth 100000 in
theorem ggL_law_X8_witness : GoodIn wsL_law wsX8_witness := goodIn_r _ [480, 129, 292, 92, 609, 610, 611, 612, 613, 614, 615, 616, 617, 618, 619, 620, 621, 622, 623, 624, 625, 626, 627, 628, 629, 630, 631, 632, 633, 634, 635, 636, 637] rfl (by decide +kernel)
set_option maxRecDepth 100000 in
theorem gL_law_X8_witness : GoodIn wsL_law (wsV RL 67 RX8 yX8_witness wsX8_witness) := goodIn_app (goodIn_of _ (by decide +kernel)) ggL_law_X8_witness
set_option maxRecDepth 100000 in
theorem ggL_law_X7_time : GoodIn wsL_law wsX7_time := goodIn_r _ [484, 15, 35, 485, 486, 142, 143, 144, 145, 14, 146, 124, 414, 415, 416, 34, 417, 418, 419, 420, 421, 422, 423, 424, 74, 425, 426, 427, 167, 428, 429, 197, 198, 199, 47, 200, 2, 201, 430, 431, 432, 433, 75, 487, 488, 489, 490, 491, 492, 493, 494, 495, 601, 602, 603, 604, 605, 606, 607, 608, 657, 658, 659, 638, 639, 640, 641, 642, 643, 644] rfl (by decide +kernel)
set_option maxRecDepth 100000 in
theorem gL_law_X7_time : GoodIn wsL_law (wsV RL 68 RX7 yX7_time wsX7_time) := goodIn_app (goodIn_of _ (by decide +kernel)) ggL_law_X7_time
set_option maxRecDepth 100000 in
theorem ggL_law_X8_time : GoodIn wsL_law wsX8_time := goodIn_r _ [499, 129, 94, 438, 95, 173, 174, 175, 5, 176, 130, 447, 448, 449, 450, 136, 451, 452, 453, 454, 87, 276, 277, 278, 279, 500, 501, 502, 503, 609, 610, 611, 612, 613, 614, 615, 616, 617, 618, 619, 620, 621, 622, 623, 624, 625, 626, 627, 628, 629, 630, 631, 632, 633, 634, 635, 636, 637] rfl (by decide +kernel)
set_option maxRecDepth 100000 in
theorem gL_law_X8_time : GoodIn wsL_law (wsV RL 71 RX8 yX8_time wsX8_time) := goodIn_app (goodIn_of _ (by decide +kernel)) ggL_law_X8_time
set_option maxRecDepth 100000 in
theorem ggL_law_X7_critical : GoodIn wsL_law wsX7_critical := goodIn_r _ [507, 15, 35, 143, 144, 145, 14, 146, 124, 414, 415, 416, 34, 417, 418, 419, 420, 421, 422, 423, 424, 74, 425, 426, 427, 167, 428, 429, 197, 198, 199, 47, 200, 2, 201, 430, 431, 432, 433, 75, 508, 509, 510, 511, 512, 492, 493, 494, 495, 488, 489, 490, 513, 514, 515, 516, 601, 602, 603, 604, 605, 606, 607, 608, 638, 639, 640, 641, 642, 643, 644, 657, 658, 659] rfl (by decide +kernel)
set_option maxRecDepth 100000 in
theorem gL_law_X7_critical : GoodIn wsL_law (wsV RL 72 RX7 yX7_critical wsX7_critical) := goodIn_app (goodIn_of _ (by decide +kernel)) ggL_law_X7_critical
set_option maxRecDepth 100000 in
theorem ggL_law_X8_critical : GoodIn wsL_law wsX8_critical := goodIn_r _ [520, 129, 130, 94, 447, 448, 449, 5, 450, 136, 95, 438, 451, 452, 453, 454, 87, 276, 277, 278, 279, 500, 501, 502, 503, 609, 610, 611, 612, 613, 614, 615, 616, 617, 618, 619, 620, 621, 622, 623, 624, 625, 626, 627, 628, 629, 630, 631, 632, 633, 634, 635, 636, 637] rfl (by decide +kernel)
set_option maxRecDepth 100000 in
theorem gL_law_X8_critical : GoodIn wsL_law (wsV RL 75 RX8 yX8_critical wsX8_critical) := goodIn_app (goodIn_of _ (by decide +kernel)) ggL_law_X8_critical
set_option maxRecDepth 100000 in
theorem ggL_law_X7_plan : GoodIn wsL_law wsX7_plan := goodIn_r _ [524, 35, 15, 39, 486, 414, 415, 416, 34, 417, 418, 419, 420, 421, 422, 423, 424, 74, 425, 426, 427, 167, 428, 429, 197, 198, 14, 199, 47, 200, 2, 201, 430, 431, 432, 433, 75, 525, 526, 527, 38, 528, 529, 530, 531, 532, 81, 533, 230, 231, 232, 534, 535, 536, 537, 82, 210, 211, 538, 539, 540, 541, 542, 543, 544, 545, 546, 547, 548, 549, 550, 551, 552, 553, 554, 555, 556, 79, 80, 557, 558, 559, 560, 601, 602, 603, 604, 605, 606, 607, 608, 657, 658, 659, 638, 639, 640, 641, 642, 643, 644, 660, 661, 662, 663, 664, 665, 666] rfl (by decide +kernel)
set_option maxRecDepth 100000 in
theorem gL_law_X7_plan : GoodIn wsL_law (wsV RL 76 RX7 yX7_plan wsX7_plan) := goodIn_app (goodIn_of _ (by decide +kernel)) ggL_law_X7_plan
set_option maxRecDepth 100000 in
theorem ggL_law_X8_plan : GoodIn wsL_law wsX8_plan := goodIn_r _ [564, 129, 130, 565, 100, 101, 102, 98, 97, 447, 448, 449, 5, 450, 136, 94, 95, 438, 451, 452, 453, 454, 87, 276, 277, 278, 279, 566, 567, 568, 569, 96, 570, 571, 572, 573, 609, 610, 611, 612, 613, 614, 615, 616, 617, 618, 619, 620, 621, 622, 623, 624, 625, 626, 627, 628, 629, 630, 631, 632, 633, 634, 635, 636, 637] rfl (by decide +kernel)
set_option maxRecDepth 100000 in
theorem gL_law_X8_plan : GoodIn wsL_law (wsV RL 79 RX8 yX8_plan wsX8_plan) := goodIn_app (goodIn_of _ (by decide +kernel)) ggL_law_X8_plan
set_option maxRecDepth 100000 in
theorem ggL_law_X7_planned : GoodIn wsL_law wsX7_planned := goodIn_r _ [577, 39, 578, 579, 580, 601, 602, 603, 604, 605, 606, 607, 608, 660, 661, 662, 663, 664, 665, 666] rfl (by decide +kernel)
set_option maxRecDepth 100000 in
theorem gL_law_X7_planned : GoodIn wsL_law (wsV RL 80 RX7 yX7_planned wsX7_planned) := goodIn_app (goodIn_of _ (by decide +kernel)) ggL_law_X7_planned
set_option maxRecDepth 100000 in
theorem ggL_law_X8_planned : GoodIn wsL_law wsX8_planned := goodIn_r _ [584, 129, 565, 96, 97, 609, 610, 611, 612, 613, 614, 615, 616, 617, 618, 619, 620, 621, 622, 623, 624, 625, 626, 627, 628, 629, 630, 631, 632, 633, 634, 635, 636, 637] rfl (by decide +kernel)
set_option maxRecDepth 100000 in
theorem gL_law_X8_planned : GoodIn wsL_law (wsV RL 83 RX8 yX8_planned wsX8_planned) := goodIn_app (goodIn_of _ (by decide +kernel)) ggL_law_X8_planned
set_option maxRecDepth 100000 in
theorem ggL_law_X7_check : GoodIn wsL_law wsX7_check := goodIn_r _ [588, 15, 589, 590, 591, 14, 592, 124, 49, 50, 190, 144, 145, 146, 593, 594, 595, 596, 409, 197, 198, 199, 47, 200, 2, 201, 601, 602, 603, 604, 605, 606, 607, 608, 638, 639, 640, 641, 642, 643, 644] rfl (by decide +kernel)
set_option maxRecDepth 100000 in
theorem gL_law_X7_check : GoodIn wsL_law (wsV RL 84 RX7 yX7_check wsX7_check) := goodIn_app (goodIn_of _ (by decide +kernel)) ggL_law_X7_check
set_option maxRecDepth 100000 in
theorem ggL_law_X8_check : GoodIn wsL_law wsX8_check := goodIn_r _ [600, 129, 609, 610, 611, 612, 613, 614, 615, 616, 617, 618, 619, 620, 621, 622, 623, 624, 625, 626, 627, 628, 629, 630, 631, 632, 633, 634, 635, 636, 637] rfl (by decide +kernel)
set_option maxRecDepth 100000 in
theorem gL_law_X8_check : GoodIn wsL_law (wsV RL 87 RX8 yX8_check wsX8_check) := goodIn_app (goodIn_of _ (by decide +kernel)) ggL_law_X8_check
