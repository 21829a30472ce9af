theorem in_pl {big : List Cond} (ws : List Cond) (ps : List Nat) (hp : ws = ps.filterMap (fun i => big[i]?)) : ∀ w ∈ ws, w ∈ big := by
  intro w hw
  rw [hp] at hw
  obtain ⟨i, -, hi⟩ := List.mem_filterMap.mp hw
  exact List.mem_of_getElem? hi
set_option maxRecDepth 20000 in
theorem wsL_law_r1_in : ∀ w ∈ wsL_law_r1, w ∈ lw_tbl := in_pl _ [66, 67, 53, 594, 595, 59, 68, 69, 70, 71, 72, 73, 74, 75, 54, 219, 145, 146, 55, 220, 162, 163, 56, 221] (by decide +kernel)
set_option maxRecDepth 20000 in
theorem wsL_law_r2_in : ∀ w ∈ wsL_law_r2, w ∈ lw_tbl := in_pl _ [180, 181, 57, 222, 193, 194, 58, 223, 250, 224, 77, 78, 79, 144, 84, 86, 91, 94, 97, 99, 104, 106, 108, 110] (by decide +kernel)
set_option maxRecDepth 20000 in
theorem wsL_law_r3_in : ∀ w ∈ wsL_law_r3, w ∈ lw_tbl := in_pl _ [113, 147, 148, 149, 150, 151, 154, 165, 166, 167, 179, 168, 170, 183, 184, 185, 186, 196, 197, 198, 199, 200, 596, 597] (by decide +kernel)
set_option maxRecDepth 20000 in
theorem wsL_law_r4_in : ∀ w ∈ wsL_law_r4, w ∈ lw_tbl := in_pl _ [598, 599, 600, 601, 602, 604, 605, 606, 607, 612, 613, 603, 251, 252, 253, 254, 255, 256, 257, 258, 155, 259, 260, 261] (by decide +kernel)
set_option maxRecDepth 20000 in
theorem wsL_law_r5_in : ∀ w ∈ wsL_law_r5, w ∈ lw_tbl := in_pl _ [262, 80, 88, 102, 263, 264, 265, 266, 267, 60, 268, 269, 271, 270, 61, 272, 273, 274, 275, 276, 277, 278, 280, 281] (by decide +kernel)
set_option maxRecDepth 20000 in
theorem wsL_law_r6_in : ∀ w ∈ wsL_law_r6, w ∈ lw_tbl := in_pl _ [282, 283, 284, 285, 287, 0, 288, 289, 291, 1, 292, 293, 295, 2, 296, 297, 298, 63, 299, 300, 301, 302, 303, 305] (by decide +kernel)
set_option maxRecDepth 20000 in
theorem wsL_law_r7_in : ∀ w ∈ wsL_law_r7, w ∈ lw_tbl := in_pl _ [3, 306, 307, 309, 4, 310, 226, 227, 228, 311, 312, 313, 314, 315, 316, 317, 318, 171, 654, 655, 656, 657, 658, 660] (by decide +kernel)
set_option maxRecDepth 20000 in
theorem wsL_law_r8_in : ∀ w ∈ wsL_law_r8, w ∈ lw_tbl := in_pl _ [15, 661, 662, 664, 16, 665, 666, 667, 668, 669, 670, 671, 672, 674, 17, 675, 650, 652, 14, 653, 676, 678, 18, 679] (by decide +kernel)
set_option maxRecDepth 20000 in
theorem wsL_law_r9_in : ∀ w ∈ wsL_law_r9, w ∈ lw_tbl := in_pl _ [319, 320, 321, 322, 323, 324, 325, 326, 327, 328, 329, 330, 680, 681, 682, 683, 684, 686, 19, 687, 688, 690, 20, 691] (by decide +kernel)
set_option maxRecDepth 20000 in
theorem wsL_law_r10_in : ∀ w ∈ wsL_law_r10, w ∈ lw_tbl := in_pl _ [331, 332, 333, 334, 335, 336, 337, 338, 339, 340, 341, 342, 692, 693, 694, 695, 696, 698, 21, 699, 700, 702, 22, 703] (by decide +kernel)
set_option maxRecDepth 20000 in
theorem wsL_law_r11_in : ∀ w ∈ wsL_law_r11, w ∈ lw_tbl := in_pl _ [704, 706, 23, 707, 708, 709, 710, 343, 344, 345, 346, 347, 348, 349, 350, 351, 352, 353, 354, 711, 712, 713, 714, 715] (by decide +kernel)
set_option maxRecDepth 20000 in
theorem wsL_law_r12_in : ∀ w ∈ wsL_law_r12, w ∈ lw_tbl := in_pl _ [717, 24, 718, 719, 721, 25, 722, 355, 356, 357, 358, 85, 87, 93, 96, 112, 359, 360, 361, 362, 363, 364, 365, 366] (by decide +kernel)
set_option maxRecDepth 20000 in
theorem wsL_law_r13_in : ∀ w ∈ wsL_law_r13, w ∈ lw_tbl := in_pl _ [367, 739, 740, 741, 742, 743, 745, 28, 746, 747, 749, 29, 750, 751, 753, 30, 754, 368, 369, 370, 371, 98, 100, 372] (by decide +kernel)
set_option maxRecDepth 20000 in
theorem wsL_law_r14_in : ∀ w ∈ wsL_law_r14, w ∈ lw_tbl := in_pl _ [755, 756, 757, 758, 373, 374, 375, 376, 169, 377, 379, 5, 380, 381, 382, 383, 384, 385, 89, 114, 92, 95, 386, 387] (by decide +kernel)
set_option maxRecDepth 20000 in
theorem wsL_law_r15_in : ∀ w ∈ wsL_law_r15, w ∈ lw_tbl := in_pl _ [64, 388, 389, 390, 391, 392, 396, 397, 393, 394, 395, 398, 399, 400, 401, 759, 760, 761, 762, 763, 765, 31, 766, 767] (by decide +kernel)
set_option maxRecDepth 20000 in
theorem wsL_law_r16_in : ∀ w ∈ wsL_law_r16, w ∈ lw_tbl := in_pl _ [769, 32, 770, 771, 773, 33, 774, 775, 777, 34, 778, 779, 780, 781, 782, 784, 35, 785, 786, 788, 36, 789, 402, 403] (by decide +kernel)
set_option maxRecDepth 20000 in
theorem wsL_law_r17_in : ∀ w ∈ wsL_law_r17, w ∈ lw_tbl := in_pl _ [404, 405, 406, 407, 65, 408, 409, 410, 411, 412, 413, 414, 415, 416, 417, 418, 419, 420, 421, 422, 423, 424, 790, 791] (by decide +kernel)
set_option maxRecDepth 20000 in
theorem wsL_law_r18_in : ∀ w ∈ wsL_law_r18, w ∈ lw_tbl := in_pl _ [792, 793, 794, 795, 796, 425, 426, 427, 428, 429, 797, 798, 799, 800, 430, 431, 432, 433, 434, 435, 436, 437, 723, 724] (by decide +kernel)
set_option maxRecDepth 20000 in
theorem wsL_law_r19_in : ∀ w ∈ wsL_law_r19, w ∈ lw_tbl := in_pl _ [725, 726, 727, 729, 26, 730, 438, 439, 440, 441, 442, 443, 444, 445, 731, 732, 733, 734, 735, 737, 27, 738, 446, 447] (by decide +kernel)
set_option maxRecDepth 20000 in
theorem wsL_law_r20_in : ∀ w ∈ wsL_law_r20, w ∈ lw_tbl := in_pl _ [448, 449, 450, 451, 452, 453, 101, 454, 456, 6, 457, 107, 109, 105, 801, 802, 803, 804, 805, 807, 37, 808, 458, 459] (by decide +kernel)
set_option maxRecDepth 20000 in
theorem wsL_law_r21_in : ∀ w ∈ wsL_law_r21, w ∈ lw_tbl := in_pl _ [460, 461, 462, 463, 464, 465, 466, 467, 809, 810, 811, 812, 813, 815, 38, 816, 468, 469, 470, 471, 472, 473, 474, 475] (by decide +kernel)
set_option maxRecDepth 20000 in
theorem wsL_law_r22_in : ∀ w ∈ wsL_law_r22, w ∈ lw_tbl := in_pl _ [82, 476, 817, 818, 819, 820, 821, 823, 39, 824, 477, 478, 479, 480, 83, 481, 482, 483, 485, 486, 487, 484, 825, 826] (by decide +kernel)
set_option maxRecDepth 20000 in
theorem wsL_law_r23_in : ∀ w ∈ wsL_law_r23, w ∈ lw_tbl := in_pl _ [827, 828, 829, 831, 40, 832, 833, 834, 835, 488, 489, 490, 491, 492, 493, 494, 495, 187, 81, 111, 496, 497, 498, 499] (by decide +kernel)
set_option maxRecDepth 20000 in
theorem wsL_law_r24_in : ∀ w ∈ wsL_law_r24, w ∈ lw_tbl := in_pl _ [836, 837, 838, 839, 840, 842, 41, 843, 844, 846, 42, 847, 500, 501, 502, 503, 504, 505, 506, 507, 508, 509, 511, 7] (by decide +kernel)
set_option maxRecDepth 20000 in
theorem wsL_law_r25_in : ∀ w ∈ wsL_law_r25, w ∈ lw_tbl := in_pl _ [512, 848, 849, 850, 851, 852, 854, 43, 855, 513, 514, 515, 516, 225, 856, 857, 858, 859, 608, 517, 518, 519, 520, 860] (by decide +kernel)
set_option maxRecDepth 20000 in
theorem wsL_law_r26_in : ∀ w ∈ wsL_law_r26, w ∈ lw_tbl := in_pl _ [861, 862, 863, 521, 522, 523, 524, 202, 525, 526, 527, 528, 201, 203, 529, 531, 8, 532, 205, 533, 535, 9, 536, 204] (by decide +kernel)
set_option maxRecDepth 20000 in
theorem wsL_law_r27_in : ∀ w ∈ wsL_law_r27, w ∈ lw_tbl := in_pl _ [537, 538, 539, 540, 542, 10, 543, 545, 547, 11, 548, 549, 550, 551, 552, 553, 554, 555, 556, 557, 558, 559, 560, 864] (by decide +kernel)
set_option maxRecDepth 20000 in
theorem wsL_law_r28_in : ∀ w ∈ wsL_law_r28, w ∈ lw_tbl := in_pl _ [865, 866, 867, 609, 610, 611, 868, 870, 44, 871, 872, 874, 45, 875, 876, 877, 878, 879, 881, 46, 882, 883, 885, 47] (by decide +kernel)
set_option maxRecDepth 20000 in
theorem wsL_law_r29_in : ∀ w ∈ wsL_law_r29, w ∈ lw_tbl := in_pl _ [886, 887, 889, 48, 890, 891, 893, 49, 894, 561, 562, 563, 564, 156, 565, 566, 567, 568, 646, 647, 648, 649, 569, 570] (by decide +kernel)
set_option maxRecDepth 20000 in
theorem wsL_law_r30_in : ∀ w ∈ wsL_law_r30, w ∈ lw_tbl := in_pl _ [571, 572, 90, 103, 895, 896, 897, 898, 899, 901, 50, 902, 573, 574, 575, 576, 577, 578, 579, 580, 582, 12, 583, 584] (by decide +kernel)
set_option maxRecDepth 20000 in
theorem wsL_law_r31_in : ∀ w ∈ wsL_law_r31, w ∈ lw_tbl := in_pl _ [585, 586, 588, 13, 589, 590, 591, 592, 593, 903, 904, 905, 906, 907, 614, 908, 910, 51, 911, 912] (by decide +kernel)
set_option maxRecDepth 20000 in
theorem inwX0 : ∀ w ∈ wsX00, w ∈ lw_tbl := by decide +kernel
set_option maxRecDepth 20000 in
theorem inwX1 : ∀ w ∈ wsX10, w ∈ lw_tbl := by decide +kernel
set_option maxRecDepth 20000 in
theorem inwX2 : ∀ w ∈ wsX20, w ∈ lw_tbl := by decide +kernel
set_option maxRecDepth 20000 in
theorem inwX3 : ∀ w ∈ wsX30, w ∈ lw_tbl := by decide +kernel
set_option maxRecDepth 20000 in
theorem inwX4 : ∀ w ∈ wsX40, w ∈ lw_tbl := by decide +kernel
set_option maxRecDepth 20000 in
theorem inwX5 : ∀ w ∈ wsX50, w ∈ lw_tbl := by decide +kernel
set_option maxRecDepth 20000 in
theorem inwX6 : ∀ w ∈ wsX60, w ∈ lw_tbl := by decide +kernel
theorem in_app {big a b : List Cond} (ha : ∀ w ∈ a, w ∈ big) (hb : ∀ w ∈ b, w ∈ big) : ∀ w ∈ a ++ b, w ∈ big := fun w h => (List.mem_append.mp h).elim (ha w) (hb w)
theorem wsL_law_in : ∀ w ∈ wsL_law, w ∈ lw_tbl := in_app (in_app (in_app (in_app (in_app (in_app (in_app (in_app (in_app wsL_law_r1_in (in_app wsL_law_r2_in (in_app wsL_law_r3_in (in_app wsL_law_r4_in (in_app wsL_law_r5_in (in_app wsL_law_r6_in (in_app wsL_law_r7_in (in_app wsL_law_r8_in (in_app wsL_law_r9_in (in_app wsL_law_r10_in (in_app wsL_law_r11_in (in_app wsL_law_r12_in (in_app wsL_law_r13_in (in_app wsL_law_r14_in (in_app wsL_law_r15_in (in_app wsL_law_r16_in (in_app wsL_law_r17_in (in_app wsL_law_r18_in (in_app wsL_law_r19_in (in_app wsL_law_r20_in (in_app wsL_law_r21_in (in_app wsL_law_r22_in (in_app wsL_law_r23_in (in_app wsL_law_r24_in (in_app wsL_law_r25_in (in_app wsL_law_r26_in (in_app wsL_law_r27_in (in_app wsL_law_r28_in (in_app wsL_law_r29_in (in_app wsL_law_r30_in (wsL_law_r31_in))))))))))))))))))))))))))))))) inwX5) inwX6) inwX0) inwX3) inwX1) inwX4) inwX2) (fun _ h => absurd h List.not_mem_nil)
theorem inlX0 : ∀ w ∈ wsX00, w ∈ wsL_law := fun _ h => List.mem_append_left _ (List.mem_append_left _ (List.mem_append_left _ (List.mem_append_left _ (List.mem_append_left _ (List.mem_append_right _ h)))))
theorem inX0 : ∀ w ∈ wsX00, w ∈ lw_tbl := fun w h => wsL_law_in w (inlX0 w h)
theorem inlX1 : ∀ w ∈ wsX10, w ∈ wsL_law := fun _ h => List.mem_append_left _ (List.mem_append_left _ (List.mem_append_left _ (List.mem_append_right _ h)))
theorem inX1 : ∀ w ∈ wsX10, w ∈ lw_tbl := fun w h => wsL_law_in w (inlX1 w h)
theorem inlX2 : ∀ w ∈ wsX20, w ∈ wsL_law := fun _ h => List.mem_append_left _ (List.mem_append_right _ h)
theorem inX2 : ∀ w ∈ wsX20, w ∈ lw_tbl := fun w h => wsL_law_in w (inlX2 w h)
theorem inlX3 : ∀ w ∈ wsX30, w ∈ wsL_law := fun _ h => List.mem_append_left _ (List.mem_append_left _ (List.mem_append_left _ (List.mem_append_left _ (List.mem_append_right _ h))))
theorem inX3 : ∀ w ∈ wsX30, w ∈ lw_tbl := fun w h => wsL_law_in w (inlX3 w h)
theorem inlX4 : ∀ w ∈ wsX40, w ∈ wsL_law := fun _ h => List.mem_append_left _ (List.mem_append_left _ (List.mem_append_right _ h))
theorem inX4 : ∀ w ∈ wsX40, w ∈ lw_tbl := fun w h => wsL_law_in w (inlX4 w h)
theorem inlX5 : ∀ w ∈ wsX50, w ∈ wsL_law := fun _ h => List.mem_append_left _ (List.mem_append_left _ (List.mem_append_left _ (List.mem_append_left _ (List.mem_append_left _ (List.mem_append_left _ (List.mem_append_left _ (List.mem_append_right _ h)))))))
theorem inX5 : ∀ w ∈ wsX50, w ∈ lw_tbl := fun w h => wsL_law_in w (inlX5 w h)
theorem inlX6 : ∀ w ∈ wsX60, w ∈ wsL_law := fun _ h => List.mem_append_left _ (List.mem_append_left _ (List.mem_append_left _ (List.mem_append_left _ (List.mem_append_left _ (List.mem_append_left _ (List.mem_append_right _ h))))))
theorem inX6 : ∀ w ∈ wsX60, w ∈ lw_tbl := fun w h => wsL_law_in w (inlX6 w h)
