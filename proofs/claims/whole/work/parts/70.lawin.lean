theorem gl_sub {L big : List Cond} (ps : List Nat) (h : L = ps.filterMap (fun i => big[i]?)) : ∀ w ∈ L, w ∈ big := by
  intro w hw
  rw [h] at hw
  obtain ⟨i, -, hi⟩ := List.mem_filterMap.mp hw
  exact List.mem_of_getElem? hi
set_option maxRecDepth 100000 in
theorem gl_wsL_law_r1 : ∀ w ∈ wsL_law_r1, w ∈ lw_tbl := gl_sub [50, 51, 38, 538, 539, 46, 52, 53, 54, 55, 56, 57, 58, 59, 39, 228, 104, 105, 40, 229, 117, 118, 41, 230] rfl
set_option maxRecDepth 100000 in
theorem gl_wsL_law_r2 : ∀ w ∈ wsL_law_r2, w ∈ lw_tbl := gl_sub [136, 137, 42, 231, 160, 161, 43, 232, 178, 179, 44, 233, 197, 198, 45, 234, 235, 61, 62, 63, 102, 64, 103, 68] rfl
set_option maxRecDepth 100000 in
theorem gl_wsL_law_r3 : ∀ w ∈ wsL_law_r3, w ∈ lw_tbl := gl_sub [69, 71, 75, 107, 108, 109, 110, 120, 121, 122, 123, 125, 139, 140, 141, 142, 145, 149, 163, 164, 165, 166, 170, 181] rfl
set_option maxRecDepth 100000 in
theorem gl_wsL_law_r4 : ∀ w ∈ wsL_law_r4, w ∈ lw_tbl := gl_sub [182, 183, 184, 186, 200, 201, 202, 203, 205, 209, 210, 540, 541, 542, 543, 547, 544, 548, 551, 552, 554, 557, 558, 559] rfl
set_option maxRecDepth 100000 in
theorem gl_wsL_law_r5 : ∀ w ∈ wsL_law_r5, w ∈ lw_tbl := gl_sub [562, 563, 564, 633, 565, 566, 567, 569, 571, 572, 573, 253, 254, 255, 256, 81, 257, 258, 259, 260, 261, 262, 263, 147] rfl
set_option maxRecDepth 100000 in
theorem gl_wsL_law_r6 : ∀ w ∈ wsL_law_r6, w ∈ lw_tbl := gl_sub [264, 265, 266, 267, 82, 634, 635, 636, 637, 545, 546, 550, 638, 640, 15, 641, 561, 570, 268, 269, 270, 271, 65, 272] rfl
set_option maxRecDepth 100000 in
theorem gl_wsL_law_r7 : ∀ w ∈ wsL_law_r7, w ∈ lw_tbl := gl_sub [273, 274, 275, 276, 277, 278, 279, 280, 281, 282, 283, 284, 286, 285, 47, 85, 287, 288, 289, 290, 150, 291, 292, 48] rfl
set_option maxRecDepth 100000 in
theorem gl_wsL_law_r8 : ∀ w ∈ wsL_law_r8, w ∈ lw_tbl := gl_sub [293, 642, 643, 644, 645, 646, 648, 16, 649, 650, 652, 17, 653, 549, 294, 295, 296, 297, 298, 299, 300, 301, 302, 303] rfl
set_option maxRecDepth 100000 in
theorem gl_wsL_law_r9 : ∀ w ∈ wsL_law_r9, w ∈ lw_tbl := gl_sub [305, 0, 306, 86, 307, 308, 309, 310, 312, 313, 314, 315, 316, 317, 318, 319, 320, 321, 323, 324, 325, 326, 327, 328] rfl
set_option maxRecDepth 100000 in
theorem gl_wsL_law_r10 : ∀ w ∈ wsL_law_r10, w ∈ lw_tbl := gl_sub [329, 330, 331, 332, 341, 168, 333, 335, 1, 336, 73, 78, 84, 337, 338, 49, 339, 340, 342, 344, 2, 345, 346, 347] rfl
set_option maxRecDepth 100000 in
theorem gl_wsL_law_r11 : ∀ w ∈ wsL_law_r11, w ∈ lw_tbl := gl_sub [348, 349, 72, 111, 350, 351, 352, 353, 354, 355, 357, 3, 358, 76, 360, 362, 4, 363, 364, 365, 366, 367, 368, 370] rfl
set_option maxRecDepth 100000 in
theorem gl_wsL_law_r12 : ∀ w ∈ wsL_law_r12, w ∈ lw_tbl := gl_sub [5, 371, 146, 372, 373, 374, 375, 654, 655, 656, 657, 556, 658, 660, 18, 661, 662, 664, 19, 665, 666, 668, 20, 669] rfl
set_option maxRecDepth 100000 in
theorem gl_wsL_law_r13 : ∀ w ∈ wsL_law_r13, w ∈ lw_tbl := gl_sub [670, 672, 21, 673, 555, 674, 676, 22, 677, 678, 680, 23, 681, 682, 684, 24, 685, 686, 688, 25, 689, 690, 692, 26] rfl
set_option maxRecDepth 100000 in
theorem gl_wsL_law_r14 : ∀ w ∈ wsL_law_r14, w ∈ lw_tbl := gl_sub [693, 694, 696, 27, 697, 698, 700, 28, 701, 376, 377, 378, 379, 380, 381, 382, 383, 384, 702, 703, 704, 705, 385, 386] rfl
set_option maxRecDepth 100000 in
theorem gl_wsL_law_r15 : ∀ w ∈ wsL_law_r15, w ∈ lw_tbl := gl_sub [387, 388, 128, 389, 390, 391, 392, 127, 706, 707, 708, 709, 553, 393, 394, 395, 396, 397, 399, 6, 400, 124, 126, 401] rfl
set_option maxRecDepth 100000 in
theorem gl_wsL_law_r16 : ∀ w ∈ wsL_law_r16, w ∈ lw_tbl := gl_sub [710, 711, 712, 713, 714, 716, 29, 717, 402, 403, 404, 405, 406, 407, 408, 409, 718, 719, 720, 721, 410, 411, 412, 413] rfl
set_option maxRecDepth 100000 in
theorem gl_wsL_law_r17 : ∀ w ∈ wsL_law_r17, w ∈ lw_tbl := gl_sub [74, 722, 723, 724, 725, 414, 415, 416, 417, 79, 726, 727, 728, 729, 418, 419, 420, 421, 148, 169, 189, 422, 423, 424] rfl
set_option maxRecDepth 100000 in
theorem gl_wsL_law_r18 : ∀ w ∈ wsL_law_r18, w ∈ lw_tbl := gl_sub [425, 426, 427, 428, 429, 430, 431, 432, 433, 434, 435, 437, 7, 438, 188, 83, 77, 66, 440, 441, 442, 439, 443, 445] rfl
set_option maxRecDepth 100000 in
theorem gl_wsL_law_r19 : ∀ w ∈ wsL_law_r19, w ∈ lw_tbl := gl_sub [8, 446, 730, 731, 732, 733, 560, 734, 736, 30, 737, 738, 740, 31, 741, 742, 744, 32, 745, 746, 748, 33, 749, 447] rfl
set_option maxRecDepth 100000 in
theorem gl_wsL_law_r20 : ∀ w ∈ wsL_law_r20, w ∈ lw_tbl := gl_sub [448, 449, 450, 750, 751, 752, 753, 451, 452, 453, 454, 455, 754, 755, 756, 757, 456, 457, 458, 459, 167, 758, 759, 760] rfl
set_option maxRecDepth 100000 in
theorem gl_wsL_law_r21 : ∀ w ∈ wsL_law_r21, w ∈ lw_tbl := gl_sub [761, 460, 461, 462, 463, 185, 187, 464, 465, 466, 467, 468, 469, 470, 471, 472, 762, 763, 764, 765, 766, 768, 34, 769] rfl
set_option maxRecDepth 100000 in
theorem gl_wsL_law_r22 : ∀ w ∈ wsL_law_r22, w ∈ lw_tbl := gl_sub [473, 474, 475, 476, 477, 478, 479, 480, 481, 482, 483, 484, 485, 770, 771, 772, 773, 486, 487, 488, 489, 490, 491, 492] rfl
set_option maxRecDepth 100000 in
theorem gl_wsL_law_r23 : ∀ w ∈ wsL_law_r23, w ∈ lw_tbl := gl_sub [493, 80, 207, 211, 212, 494, 495, 497, 9, 498, 500, 502, 10, 503, 67, 504, 506, 11, 507, 508, 510, 12, 511, 70] rfl
set_option maxRecDepth 100000 in
theorem gl_wsL_law_r24 : ∀ w ∈ wsL_law_r24, w ∈ lw_tbl := gl_sub [513, 514, 516, 13, 517, 518, 520, 14, 521, 774, 775, 776, 777, 568, 778, 780, 35, 781, 782, 784, 36, 785, 522, 523] rfl
set_option maxRecDepth 100000 in
theorem gl_wsL_law_r25 : ∀ w ∈ wsL_law_r25, w ∈ lw_tbl := gl_sub [524, 525, 208, 204, 206, 786, 787, 788, 789, 526, 527, 528, 529, 530, 531, 532, 533, 534, 535, 536, 537, 790, 791, 792] rfl
set_option maxRecDepth 100000 in
theorem gl_wsL_law_r26 : ∀ w ∈ wsL_law_r26, w ∈ lw_tbl := gl_sub [793] rfl
set_option maxRecDepth 100000 in
theorem inX0 : ∀ w ∈ wsX00, w ∈ lw_tbl := gl_sub [129, 131, 133] rfl
set_option maxRecDepth 100000 in
theorem inX1 : ∀ w ∈ wsX10, w ∈ lw_tbl := gl_sub [112, 114] rfl
set_option maxRecDepth 100000 in
theorem inX2 : ∀ w ∈ wsX20, w ∈ lw_tbl := gl_sub [87, 89, 91, 93, 95, 97, 99] rfl
set_option maxRecDepth 100000 in
theorem inX3 : ∀ w ∈ wsX30, w ∈ lw_tbl := gl_sub [151, 153, 155, 157] rfl
set_option maxRecDepth 100000 in
theorem inX4 : ∀ w ∈ wsX40, w ∈ lw_tbl := gl_sub [171, 173, 175] rfl
set_option maxRecDepth 100000 in
theorem inX5 : ∀ w ∈ wsX50, w ∈ lw_tbl := gl_sub [213, 215, 217, 219, 221, 223, 225] rfl
set_option maxRecDepth 100000 in
theorem inX6 : ∀ w ∈ wsX60, w ∈ lw_tbl := gl_sub [190, 192, 194] rfl
set_option maxRecDepth 100000 in
theorem inX7 : ∀ w ∈ wsX70, w ∈ lw_tbl := gl_sub [236, 238, 240, 242, 244, 246, 248, 250] rfl
set_option maxRecDepth 100000 in
theorem inX8 : ∀ w ∈ wsX80, w ∈ lw_tbl := gl_sub [574, 576, 578, 580, 582, 584, 586, 588, 590, 592, 594, 596, 598, 600, 602, 604, 606, 608, 610, 612, 614, 616, 618, 620, 622, 624, 626, 628, 630] rfl
set_option maxRecDepth 100000 in
theorem wsL_law_in : ∀ w ∈ wsL_law, w ∈ lw_tbl := (List.forall_mem_append.mpr ⟨(List.forall_mem_append.mpr ⟨(List.forall_mem_append.mpr ⟨(List.forall_mem_append.mpr ⟨(List.forall_mem_append.mpr ⟨(List.forall_mem_append.mpr ⟨(List.forall_mem_append.mpr ⟨(List.forall_mem_append.mpr ⟨(List.forall_mem_append.mpr ⟨(List.forall_mem_append.mpr ⟨(List.forall_mem_append.mpr ⟨gl_wsL_law_r1, (List.forall_mem_append.mpr ⟨gl_wsL_law_r2, (List.forall_mem_append.mpr ⟨gl_wsL_law_r3, (List.forall_mem_append.mpr ⟨gl_wsL_law_r4, (List.forall_mem_append.mpr ⟨gl_wsL_law_r5, (List.forall_mem_append.mpr ⟨gl_wsL_law_r6, (List.forall_mem_append.mpr ⟨gl_wsL_law_r7, (List.forall_mem_append.mpr ⟨gl_wsL_law_r8, (List.forall_mem_append.mpr ⟨gl_wsL_law_r9, (List.forall_mem_append.mpr ⟨gl_wsL_law_r10, (List.forall_mem_append.mpr ⟨gl_wsL_law_r11, (List.forall_mem_append.mpr ⟨gl_wsL_law_r12, (List.forall_mem_append.mpr ⟨gl_wsL_law_r13, (List.forall_mem_append.mpr ⟨gl_wsL_law_r14, (List.forall_mem_append.mpr ⟨gl_wsL_law_r15, (List.forall_mem_append.mpr ⟨gl_wsL_law_r16, (List.forall_mem_append.mpr ⟨gl_wsL_law_r17, (List.forall_mem_append.mpr ⟨gl_wsL_law_r18, (List.forall_mem_append.mpr ⟨gl_wsL_law_r19, (List.forall_mem_append.mpr ⟨gl_wsL_law_r20, (List.forall_mem_append.mpr ⟨gl_wsL_law_r21, (List.forall_mem_append.mpr ⟨gl_wsL_law_r22, (List.forall_mem_append.mpr ⟨gl_wsL_law_r23, (List.forall_mem_append.mpr ⟨gl_wsL_law_r24, (List.forall_mem_append.mpr ⟨gl_wsL_law_r25, gl_wsL_law_r26⟩)⟩)⟩)⟩)⟩)⟩)⟩)⟩)⟩)⟩)⟩)⟩)⟩)⟩)⟩)⟩)⟩)⟩)⟩)⟩)⟩)⟩)⟩)⟩)⟩), inX7⟩), inX8⟩), inX2⟩), inX1⟩), inX0⟩), inX3⟩), inX4⟩), inX6⟩), inX5⟩), (fun _ h => absurd h List.not_mem_nil)⟩)
set_option maxRecDepth 100000 in
theorem gl_nests : ∀ w ∈ gb_nests.map (fun q => Cond.methodLinkNest q.1 q.2.1 q.2.2.1 q.2.2.2), w ∈ lw_tbl := gl_sub [60, 106, 119, 138, 143, 162, 180, 199, 311, 322, 359, 499, 512] rfl
set_option maxRecDepth 100000 in
theorem gl_over : Cond.arrayOver (.object RX2) ∈ lw_tbl := List.mem_of_getElem? (i := 144) rfl
