theorem in_pl {big : List Cond} (ws : List Cond) (ps : List Nat) (hp : ws = ps.filterMap (fun i => big[i]?)) : ∀ w ∈ ws, w ∈ big := by
  intro w hw
  rw [hp] at hw
  obtain ⟨i, -, hi⟩ := List.mem_filterMap.mp hw
  exact List.mem_of_getElem? hi
set_option maxRecDepth 20000 in
theorem wsL_law_r1_in : ∀ w ∈ wsL_law_r1, w ∈ lw_tbl := in_pl _ [66, 67, 53, 597, 598, 59, 68, 69, 70, 71, 72, 73, 74, 75, 54, 222, 145, 146, 55, 223, 162, 163, 56, 224] (by decide +kernel)
set_option maxRecDepth 20000 in
theorem wsL_law_r2_in : ∀ w ∈ wsL_law_r2, w ∈ lw_tbl := in_pl _ [183, 184, 57, 225, 196, 197, 58, 226, 253, 227, 77, 78, 79, 144, 84, 86, 91, 94, 97, 99, 104, 106, 108, 110] (by decide +kernel)
set_option maxRecDepth 20000 in
theorem wsL_law_r3_in : ∀ w ∈ wsL_law_r3, w ∈ lw_tbl := in_pl _ [113, 147, 148, 149, 150, 151, 154, 164, 165, 166, 167, 182, 169, 171, 168, 186, 187, 188, 189, 199, 200, 201, 202, 203] (by decide +kernel)
set_option maxRecDepth 20000 in
theorem wsL_law_r4_in : ∀ w ∈ wsL_law_r4, w ∈ lw_tbl := in_pl _ [599, 600, 601, 602, 603, 604, 605, 607, 608, 609, 610, 615, 616, 606, 254, 255, 256, 257, 258, 259, 260, 261, 155, 262] (by decide +kernel)
set_option maxRecDepth 20000 in
theorem wsL_law_r5_in : ∀ w ∈ wsL_law_r5, w ∈ lw_tbl := in_pl _ [263, 264, 265, 80, 88, 102, 266, 267, 268, 269, 270, 60, 271, 272, 274, 273, 61, 275, 276, 277, 278, 279, 280, 281] (by decide +kernel)
set_option maxRecDepth 20000 in
theorem wsL_law_r6_in : ∀ w ∈ wsL_law_r6, w ∈ lw_tbl := in_pl _ [283, 284, 285, 286, 287, 288, 290, 0, 291, 292, 294, 1, 295, 296, 298, 2, 299, 300, 301, 63, 302, 303, 304, 305] (by decide +kernel)
set_option maxRecDepth 20000 in
theorem wsL_law_r7_in : ∀ w ∈ wsL_law_r7, w ∈ lw_tbl := in_pl _ [306, 308, 3, 309, 310, 312, 4, 313, 229, 230, 231, 314, 315, 316, 317, 318, 319, 320, 321, 172, 657, 658, 659, 660] (by decide +kernel)
set_option maxRecDepth 20000 in
theorem wsL_law_r8_in : ∀ w ∈ wsL_law_r8, w ∈ lw_tbl := in_pl _ [661, 663, 15, 664, 665, 667, 16, 668, 669, 670, 671, 672, 673, 674, 675, 677, 17, 678, 653, 655, 14, 656, 679, 681] (by decide +kernel)
set_option maxRecDepth 20000 in
theorem wsL_law_r9_in : ∀ w ∈ wsL_law_r9, w ∈ lw_tbl := in_pl _ [18, 682, 322, 323, 324, 325, 326, 327, 328, 329, 330, 331, 332, 333, 683, 684, 685, 686, 687, 689, 19, 690, 691, 693] (by decide +kernel)
set_option maxRecDepth 20000 in
theorem wsL_law_r10_in : ∀ w ∈ wsL_law_r10, w ∈ lw_tbl := in_pl _ [20, 694, 334, 335, 336, 337, 338, 339, 340, 341, 342, 343, 344, 345, 695, 696, 697, 698, 699, 701, 21, 702, 703, 705] (by decide +kernel)
set_option maxRecDepth 20000 in
theorem wsL_law_r11_in : ∀ w ∈ wsL_law_r11, w ∈ lw_tbl := in_pl _ [22, 706, 707, 709, 23, 710, 711, 712, 713, 346, 347, 348, 349, 350, 351, 352, 353, 354, 355, 356, 357, 714, 715, 716] (by decide +kernel)
set_option maxRecDepth 20000 in
theorem wsL_law_r12_in : ∀ w ∈ wsL_law_r12, w ∈ lw_tbl := in_pl _ [717, 718, 720, 24, 721, 722, 724, 25, 725, 358, 359, 360, 361, 85, 87, 93, 96, 112, 362, 363, 364, 365, 366, 367] (by decide +kernel)
set_option maxRecDepth 20000 in
theorem wsL_law_r13_in : ∀ w ∈ wsL_law_r13, w ∈ lw_tbl := in_pl _ [368, 369, 370, 742, 743, 744, 745, 746, 748, 28, 749, 750, 752, 29, 753, 754, 756, 30, 757, 371, 372, 373, 374, 98] (by decide +kernel)
set_option maxRecDepth 20000 in
theorem wsL_law_r14_in : ∀ w ∈ wsL_law_r14, w ∈ lw_tbl := in_pl _ [100, 375, 758, 759, 760, 761, 376, 377, 378, 379, 170, 380, 382, 5, 383, 384, 385, 386, 387, 388, 89, 114, 92, 95] (by decide +kernel)
set_option maxRecDepth 20000 in
theorem wsL_law_r15_in : ∀ w ∈ wsL_law_r15, w ∈ lw_tbl := in_pl _ [389, 390, 64, 391, 392, 393, 394, 395, 399, 400, 396, 397, 398, 401, 402, 403, 404, 762, 763, 764, 765, 766, 768, 31] (by decide +kernel)
set_option maxRecDepth 20000 in
theorem wsL_law_r16_in : ∀ w ∈ wsL_law_r16, w ∈ lw_tbl := in_pl _ [769, 770, 772, 32, 773, 774, 776, 33, 777, 778, 780, 34, 781, 782, 783, 784, 785, 787, 35, 788, 789, 791, 36, 792] (by decide +kernel)
set_option maxRecDepth 20000 in
theorem wsL_law_r17_in : ∀ w ∈ wsL_law_r17, w ∈ lw_tbl := in_pl _ [405, 406, 407, 408, 409, 410, 65, 411, 412, 413, 414, 415, 416, 417, 418, 419, 420, 421, 422, 423, 424, 425, 426, 427] (by decide +kernel)
set_option maxRecDepth 20000 in
theorem wsL_law_r18_in : ∀ w ∈ wsL_law_r18, w ∈ lw_tbl := in_pl _ [793, 794, 795, 796, 797, 798, 799, 428, 429, 430, 431, 432, 800, 801, 802, 803, 433, 434, 435, 436, 437, 438, 439, 440] (by decide +kernel)
set_option maxRecDepth 20000 in
theorem wsL_law_r19_in : ∀ w ∈ wsL_law_r19, w ∈ lw_tbl := in_pl _ [726, 727, 728, 729, 730, 732, 26, 733, 441, 442, 443, 444, 445, 446, 447, 448, 734, 735, 736, 737, 738, 740, 27, 741] (by decide +kernel)
set_option maxRecDepth 20000 in
theorem wsL_law_r20_in : ∀ w ∈ wsL_law_r20, w ∈ lw_tbl := in_pl _ [449, 450, 451, 452, 453, 454, 455, 456, 101, 457, 459, 6, 460, 107, 109, 105, 804, 805, 806, 807, 808, 810, 37, 811] (by decide +kernel)
set_option maxRecDepth 20000 in
theorem wsL_law_r21_in : ∀ w ∈ wsL_law_r21, w ∈ lw_tbl := in_pl _ [461, 462, 463, 464, 465, 466, 467, 468, 469, 470, 812, 813, 814, 815, 816, 818, 38, 819, 471, 472, 473, 474, 475, 476] (by decide +kernel)
set_option maxRecDepth 20000 in
theorem wsL_law_r22_in : ∀ w ∈ wsL_law_r22, w ∈ lw_tbl := in_pl _ [477, 478, 82, 479, 820, 821, 822, 823, 824, 826, 39, 827, 480, 481, 482, 483, 83, 484, 485, 486, 488, 489, 490, 487] (by decide +kernel)
set_option maxRecDepth 20000 in
theorem wsL_law_r23_in : ∀ w ∈ wsL_law_r23, w ∈ lw_tbl := in_pl _ [828, 829, 830, 831, 832, 834, 40, 835, 836, 837, 838, 491, 492, 493, 494, 495, 496, 497, 498, 190, 81, 111, 499, 500] (by decide +kernel)
set_option maxRecDepth 20000 in
theorem wsL_law_r24_in : ∀ w ∈ wsL_law_r24, w ∈ lw_tbl := in_pl _ [501, 502, 839, 840, 841, 842, 843, 845, 41, 846, 847, 849, 42, 850, 503, 504, 505, 506, 507, 508, 509, 510, 511, 512] (by decide +kernel)
set_option maxRecDepth 20000 in
theorem wsL_law_r25_in : ∀ w ∈ wsL_law_r25, w ∈ lw_tbl := in_pl _ [514, 7, 515, 851, 852, 853, 854, 855, 857, 43, 858, 516, 517, 518, 519, 228, 859, 860, 861, 862, 611, 520, 521, 522] (by decide +kernel)
set_option maxRecDepth 20000 in
theorem wsL_law_r26_in : ∀ w ∈ wsL_law_r26, w ∈ lw_tbl := in_pl _ [523, 863, 864, 865, 866, 524, 525, 526, 527, 205, 528, 529, 530, 531, 204, 206, 532, 534, 8, 535, 208, 536, 538, 9] (by decide +kernel)
set_option maxRecDepth 20000 in
theorem wsL_law_r27_in : ∀ w ∈ wsL_law_r27, w ∈ lw_tbl := in_pl _ [539, 207, 540, 541, 542, 543, 545, 10, 546, 548, 550, 11, 551, 552, 553, 554, 555, 556, 557, 558, 559, 560, 561, 562] (by decide +kernel)
set_option maxRecDepth 20000 in
theorem wsL_law_r28_in : ∀ w ∈ wsL_law_r28, w ∈ lw_tbl := in_pl _ [563, 867, 868, 869, 870, 612, 613, 614, 871, 873, 44, 874, 875, 877, 45, 878, 879, 880, 881, 882, 884, 46, 885, 886] (by decide +kernel)
set_option maxRecDepth 20000 in
theorem wsL_law_r29_in : ∀ w ∈ wsL_law_r29, w ∈ lw_tbl := in_pl _ [888, 47, 889, 890, 892, 48, 893, 894, 896, 49, 897, 564, 565, 566, 567, 156, 568, 569, 570, 571, 649, 650, 651, 652] (by decide +kernel)
set_option maxRecDepth 20000 in
theorem wsL_law_r30_in : ∀ w ∈ wsL_law_r30, w ∈ lw_tbl := in_pl _ [572, 573, 574, 575, 90, 103, 898, 899, 900, 901, 902, 904, 50, 905, 576, 577, 578, 579, 580, 581, 582, 583, 585, 12] (by decide +kernel)
set_option maxRecDepth 20000 in
theorem wsL_law_r31_in : ∀ w ∈ wsL_law_r31, w ∈ lw_tbl := in_pl _ [586, 587, 588, 589, 591, 13, 592, 593, 594, 595, 596, 906, 907, 908, 909, 910, 617, 911, 913, 51, 914, 915] (by decide +kernel)
set_option maxRecDepth 20000 in
theorem inwX0 : ∀ w ∈ wsX00, w ∈ lw_tbl := by decide +kernel
set_option maxRecDepth 20000 in
theorem inwX1 : ∀ w ∈ wsX10, w ∈ lw_tbl := by decide +kernel
set_option maxRecDepth 20000 in
theorem inwX2 : ∀ w ∈ wsX20, w ∈ lw_tbl := by decide +kernel
set_option maxRecDepth 20000 in
theorem inwX3 : ∀ w ∈ wsX30, w ∈ lw_tbl := by decide +kernel
set_option maxRecDepth 20000 in
theorem inwX4 : ∀ w ∈ wsX40, w ∈ lw_tbl := by decide +kernel
set_option maxRecDepth 20000 in
theorem inwX5 : ∀ w ∈ wsX50, w ∈ lw_tbl := by decide +kernel
set_option maxRecDepth 20000 in
theorem inwX6 : ∀ w ∈ wsX60, w ∈ lw_tbl := by decide +kernel
theorem in_app {big a b : List Cond} (ha : ∀ w ∈ a, w ∈ big) (hb : ∀ w ∈ b, w ∈ big) : ∀ w ∈ a ++ b, w ∈ big := fun w h => (List.mem_append.mp h).elim (ha w) (hb w)
theorem wsL_law_in : ∀ w ∈ wsL_law, w ∈ lw_tbl := in_app (in_app (in_app (in_app (in_app (in_app (in_app (in_app (in_app wsL_law_r1_in (in_app wsL_law_r2_in (in_app wsL_law_r3_in (in_app wsL_law_r4_in (in_app wsL_law_r5_in (in_app wsL_law_r6_in (in_app wsL_law_r7_in (in_app wsL_law_r8_in (in_app wsL_law_r9_in (in_app wsL_law_r10_in (in_app wsL_law_r11_in (in_app wsL_law_r12_in (in_app wsL_law_r13_in (in_app wsL_law_r14_in (in_app wsL_law_r15_in (in_app wsL_law_r16_in (in_app wsL_law_r17_in (in_app wsL_law_r18_in (in_app wsL_law_r19_in (in_app wsL_law_r20_in (in_app wsL_law_r21_in (in_app wsL_law_r22_in (in_app wsL_law_r23_in (in_app wsL_law_r24_in (in_app wsL_law_r25_in (in_app wsL_law_r26_in (in_app wsL_law_r27_in (in_app wsL_law_r28_in (in_app wsL_law_r29_in (in_app wsL_law_r30_in (wsL_law_r31_in))))))))))))))))))))))))))))))) inwX5) inwX6) inwX0) inwX3) inwX1) inwX4) inwX2) (fun _ h => absurd h List.not_mem_nil)
theorem inlX0 : ∀ w ∈ wsX00, w ∈ wsL_law := fun _ h => List.mem_append_left _ (List.mem_append_left _ (List.mem_append_left _ (List.mem_append_left _ (List.mem_append_left _ (List.mem_append_right _ h)))))
theorem inX0 : ∀ w ∈ wsX00, w ∈ lw_tbl := fun w h => wsL_law_in w (inlX0 w h)
theorem inlX1 : ∀ w ∈ wsX10, w ∈ wsL_law := fun _ h => List.mem_append_left _ (List.mem_append_left _ (List.mem_append_left _ (List.mem_append_right _ h)))
theorem inX1 : ∀ w ∈ wsX10, w ∈ lw_tbl := fun w h => wsL_law_in w (inlX1 w h)
theorem inlX2 : ∀ w ∈ wsX20, w ∈ wsL_law := fun _ h => List.mem_append_left _ (List.mem_append_right _ h)
theorem inX2 : ∀ w ∈ wsX20, w ∈ lw_tbl := fun w h => wsL_law_in w (inlX2 w h)
theorem inlX3 : ∀ w ∈ wsX30, w ∈ wsL_law := fun _ h => List.mem_append_left _ (List.mem_append_left _ (List.mem_append_left _ (List.mem_append_left _ (List.mem_append_right _ h))))
theorem inX3 : ∀ w ∈ wsX30, w ∈ lw_tbl := fun w h => wsL_law_in w (inlX3 w h)
theorem inlX4 : ∀ w ∈ wsX40, w ∈ wsL_law := fun _ h => List.mem_append_left _ (List.mem_append_left _ (List.mem_append_right _ h))
theorem inX4 : ∀ w ∈ wsX40, w ∈ lw_tbl := fun w h => wsL_law_in w (inlX4 w h)
theorem inlX5 : ∀ w ∈ wsX50, w ∈ wsL_law := fun _ h => List.mem_append_left _ (List.mem_append_left _ (List.mem_append_left _ (List.mem_append_left _ (List.mem_append_left _ (List.mem_append_left _ (List.mem_append_left _ (List.mem_append_right _ h)))))))
theorem inX5 : ∀ w ∈ wsX50, w ∈ lw_tbl := fun w h => wsL_law_in w (inlX5 w h)
theorem inlX6 : ∀ w ∈ wsX60, w ∈ wsL_law := fun _ h => List.mem_append_left _ (List.mem_append_left _ (List.mem_append_left _ (List.mem_append_left _ (List.mem_append_left _ (List.mem_append_left _ (List.mem_append_right _ h))))))
theorem inX6 : ∀ w ∈ wsX60, w ∈ lw_tbl := fun w h => wsL_law_in w (inlX6 w h)
