theorem mem_r {big : List Cond} (ws : List Cond) (ps : List Nat) (hp : ws = ps.filterMap (fun i => big[i]?)) : ∀ w ∈ ws, w ∈ big := by
  intro w hw
  rw [hp] at hw
  obtain ⟨i, -, hi⟩ := List.mem_filterMap.mp hw
  exact List.mem_of_getElem? hi
set_option maxRecDepth 20000 in
theorem wsL_i1 : ∀ w ∈ wsL_law_r1, w ∈ lw_tbl := mem_r _ [68, 69, 56, 631, 632, 63, 924, 70, 71, 72, 73, 74, 75, 76, 77, 57, 197, 99, 100, 58, 198, 199, 200, 148] rfl
set_option maxRecDepth 20000 in
theorem wsL_i2 : ∀ w ∈ wsL_law_r2, w ∈ lw_tbl := mem_r _ [201, 128, 129, 59, 202, 149, 150, 60, 203, 167, 168, 61, 204, 180, 181, 62, 205, 206, 208, 237, 209, 78, 79, 80] rfl
set_option maxRecDepth 20000 in
theorem wsL_i3 : ∀ w ∈ wsL_law_r3, w ∈ lw_tbl := mem_r _ [81, 98, 82, 101, 102, 103, 104, 105, 114, 115, 116, 130, 131, 132, 133, 134, 135, 136, 151, 152, 153, 154, 155, 157] rfl
set_option maxRecDepth 20000 in
theorem wsL_i4 : ∀ w ∈ wsL_law_r4, w ∈ lw_tbl := mem_r _ [158, 169, 170, 171, 172, 173, 174, 182, 183, 184, 185, 186, 187, 633, 634, 635, 636, 637, 638, 640, 641, 643, 650, 651] rfl
set_option maxRecDepth 20000 in
theorem wsL_i5 : ∀ w ∈ wsL_law_r5, w ∈ lw_tbl := mem_r _ [652, 653, 654, 655, 238, 239, 240, 241, 84, 242, 243, 244, 245, 83, 695, 696, 697, 698, 699, 642, 700, 701, 702, 246] rfl
set_option maxRecDepth 20000 in
theorem wsL_i6 : ∀ w ∈ wsL_law_r6, w ∈ lw_tbl := mem_r _ [247, 248, 249, 703, 704, 705, 706, 250, 251, 252, 253, 86, 138, 207, 88, 254, 255, 256, 257, 85, 87, 258, 259, 260] rfl
set_option maxRecDepth 20000 in
theorem wsL_i7 : ∀ w ∈ wsL_law_r7, w ∈ lw_tbl := mem_r _ [261, 262, 263, 64, 264, 265, 266, 267, 111, 268, 269, 65, 270, 271, 273, 0, 274, 275, 277, 1, 278, 279, 281, 2] rfl
set_option maxRecDepth 20000 in
theorem wsL_i8 : ∀ w ∈ wsL_law_r8, w ∈ lw_tbl := mem_r _ [282, 112, 283, 285, 3, 286, 287, 289, 4, 290, 291, 292, 293, 294, 296, 5, 297, 298, 300, 6, 301, 109, 302, 303] rfl
set_option maxRecDepth 20000 in
theorem wsL_i9 : ∀ w ∈ wsL_law_r9, w ∈ lw_tbl := mem_r _ [304, 305, 306, 307, 308, 309, 310, 311, 312, 313, 314, 316, 7, 317, 318, 319, 320, 321, 322, 324, 323, 66, 707, 708] rfl
set_option maxRecDepth 20000 in
theorem wsL_i10 : ∀ w ∈ wsL_law_r10, w ∈ lw_tbl := mem_r _ [709, 710, 646, 649, 645, 639, 644, 711, 713, 29, 714, 648, 647, 715, 716, 717, 719, 30, 720, 721, 723, 31, 724, 725] rfl
set_option maxRecDepth 20000 in
theorem wsL_i11 : ∀ w ∈ wsL_law_r11, w ∈ lw_tbl := mem_r _ [727, 32, 728, 729, 731, 33, 732, 733, 735, 34, 736, 737, 739, 35, 740, 325, 326, 327, 328, 329, 330, 331, 332, 333] rfl
set_option maxRecDepth 20000 in
theorem wsL_i12 : ∀ w ∈ wsL_law_r12, w ∈ lw_tbl := mem_r _ [334, 335, 336, 337, 338, 339, 340, 341, 342, 343, 344, 345, 346, 347, 348, 741, 742, 743, 744, 753, 745, 747, 36, 748] rfl
set_option maxRecDepth 20000 in
theorem wsL_i13 : ∀ w ∈ wsL_law_r13, w ∈ lw_tbl := mem_r _ [749, 751, 37, 752, 349, 350, 351, 352, 353, 354, 355, 356, 357, 358, 754, 755, 756, 757, 758, 760, 38, 761, 762, 764] rfl
set_option maxRecDepth 20000 in
theorem wsL_i14 : ∀ w ∈ wsL_law_r14, w ∈ lw_tbl := mem_r _ [39, 765, 359, 360, 361, 362, 113, 363, 365, 8, 366, 367, 368, 369, 370, 372, 9, 373, 374, 375, 376, 377, 137, 378] rfl
set_option maxRecDepth 20000 in
theorem wsL_i15 : ∀ w ∈ wsL_law_r15, w ∈ lw_tbl := mem_r _ [380, 10, 381, 382, 383, 766, 767, 768, 769, 770, 771, 773, 40, 774, 384, 385, 386, 387, 775, 776, 777, 778, 388, 389] rfl
set_option maxRecDepth 20000 in
theorem wsL_i16 : ∀ w ∈ wsL_law_r16, w ∈ lw_tbl := mem_r _ [390, 391, 779, 780, 781, 782, 392, 393, 394, 395, 396, 397, 398, 399, 400, 783, 784, 785, 786, 401, 402, 403, 404, 408] rfl
set_option maxRecDepth 20000 in
theorem wsL_i17 : ∀ w ∈ wsL_law_r17, w ∈ lw_tbl := mem_r _ [417, 405, 406, 407, 409, 410, 411, 412, 413, 414, 415, 416, 418, 419, 420, 421, 159, 422, 424, 11, 425, 108, 426, 428] rfl
set_option maxRecDepth 20000 in
theorem wsL_i18 : ∀ w ∈ wsL_law_r18, w ∈ lw_tbl := mem_r _ [12, 429, 430, 431, 432, 434, 13, 435, 436, 437, 438, 439, 440, 441, 442, 443, 444, 445, 446, 447, 448, 787, 788, 789] rfl
set_option maxRecDepth 20000 in
theorem wsL_i19 : ∀ w ∈ wsL_law_r19, w ∈ lw_tbl := mem_r _ [790, 791, 829, 792, 794, 41, 795, 796, 798, 42, 799, 800, 802, 43, 803, 804, 806, 44, 807, 808, 810, 45, 811, 812] rfl
set_option maxRecDepth 20000 in
theorem wsL_i20 : ∀ w ∈ wsL_law_r20, w ∈ lw_tbl := mem_r _ [813, 814, 815, 817, 46, 818, 819, 821, 47, 822, 823, 824, 825, 826, 827, 828, 449, 450, 451, 452, 453, 454, 455, 456] rfl
set_option maxRecDepth 20000 in
theorem wsL_i21 : ∀ w ∈ wsL_law_r21, w ∈ lw_tbl := mem_r _ [457, 458, 830, 831, 832, 833, 834, 836, 48, 837, 459, 460, 461, 462, 463, 464, 465, 466, 838, 839, 840, 841, 842, 844] rfl
set_option maxRecDepth 20000 in
theorem wsL_i22 : ∀ w ∈ wsL_law_r22, w ∈ lw_tbl := mem_r _ [49, 845, 467, 468, 469, 470, 471, 472, 473, 474, 475, 476, 477, 478, 479, 481, 14, 482, 107, 483, 485, 15, 486, 487] rfl
set_option maxRecDepth 20000 in
theorem wsL_i23 : ∀ w ∈ wsL_law_r23, w ∈ lw_tbl := mem_r _ [488, 489, 490, 491, 846, 847, 848, 849, 850, 851, 853, 50, 854, 492, 493, 494, 495, 855, 856, 857, 858, 496, 497, 498] rfl
set_option maxRecDepth 20000 in
theorem wsL_i24 : ∀ w ∈ wsL_law_r24, w ∈ lw_tbl := mem_r _ [499, 500, 502, 16, 503, 504, 506, 17, 507, 859, 860, 861, 862, 863, 865, 51, 866, 508, 509, 510, 511, 512, 514, 18] rfl
set_option maxRecDepth 20000 in
theorem wsL_i25 : ∀ w ∈ wsL_law_r25, w ∈ lw_tbl := mem_r _ [515, 516, 518, 19, 519, 867, 868, 869, 870, 520, 521, 522, 523, 579, 524, 525, 526, 527, 188, 528, 530, 20, 531, 106] rfl
set_option maxRecDepth 20000 in
theorem wsL_i26 : ∀ w ∈ wsL_law_r26, w ∈ lw_tbl := mem_r _ [532, 533, 535, 21, 536, 537, 539, 22, 540, 541, 543, 23, 544, 545, 547, 24, 548, 549, 550, 551, 552, 553, 554, 555] rfl
set_option maxRecDepth 20000 in
theorem wsL_i27 : ∀ w ∈ wsL_law_r27, w ∈ lw_tbl := mem_r _ [556, 557, 559, 25, 560, 561, 563, 26, 564, 565, 566, 567, 568, 570, 572, 27, 573, 574, 575, 576, 577, 578, 580, 581] rfl
set_option maxRecDepth 20000 in
theorem wsL_i28 : ∀ w ∈ wsL_law_r28, w ∈ lw_tbl := mem_r _ [871, 872, 873, 874, 887, 875, 877, 52, 878, 879, 881, 53, 882, 883, 885, 54, 886, 582, 583, 584, 585, 888, 889, 890] rfl
set_option maxRecDepth 20000 in
theorem wsL_i29 : ∀ w ∈ wsL_law_r29, w ∈ lw_tbl := mem_r _ [891, 586, 587, 588, 589, 590, 591, 592, 67, 593, 594, 595, 596, 597, 598, 599, 892, 893, 894, 895, 896, 897, 898, 899] rfl
set_option maxRecDepth 20000 in
theorem wsL_i30 : ∀ w ∈ wsL_law_r30, w ∈ lw_tbl := mem_r _ [600, 601, 602, 603, 900, 901, 902, 903, 604, 605, 606, 607, 904, 905, 906, 907, 608, 609, 610, 611, 612, 614, 28, 615] rfl
set_option maxRecDepth 20000 in
theorem wsL_i31 : ∀ w ∈ wsL_law_r31, w ∈ lw_tbl := mem_r _ [908, 909, 910, 911, 616, 617, 618, 619, 110, 620, 621, 622, 912, 913, 914, 915, 623, 624, 625, 626, 916, 917, 918, 919] rfl
set_option maxRecDepth 20000 in
theorem wsL_i32 : ∀ w ∈ wsL_law_r32, w ∈ lw_tbl := mem_r _ [627, 628, 629, 630, 920, 921, 922, 923] rfl
theorem wsL_iA : ∀ w ∈ (wsL_law_r1 ++ (wsL_law_r2 ++ (wsL_law_r3 ++ (wsL_law_r4 ++ (wsL_law_r5 ++ (wsL_law_r6 ++ (wsL_law_r7 ++ (wsL_law_r8 ++ (wsL_law_r9 ++ (wsL_law_r10 ++ (wsL_law_r11 ++ (wsL_law_r12 ++ (wsL_law_r13 ++ (wsL_law_r14 ++ (wsL_law_r15 ++ (wsL_law_r16 ++ (wsL_law_r17 ++ (wsL_law_r18 ++ (wsL_law_r19 ++ (wsL_law_r20 ++ (wsL_law_r21 ++ (wsL_law_r22 ++ (wsL_law_r23 ++ (wsL_law_r24 ++ (wsL_law_r25 ++ (wsL_law_r26 ++ (wsL_law_r27 ++ (wsL_law_r28 ++ (wsL_law_r29 ++ (wsL_law_r30 ++ (wsL_law_r31 ++ (wsL_law_r32)))))))))))))))))))))))))))))))), w ∈ lw_tbl := fun w h => (List.mem_append.mp h).elim (wsL_i1 w) ((fun w h => (List.mem_append.mp h).elim (wsL_i2 w) ((fun w h => (List.mem_append.mp h).elim (wsL_i3 w) ((fun w h => (List.mem_append.mp h).elim (wsL_i4 w) ((fun w h => (List.mem_append.mp h).elim (wsL_i5 w) ((fun w h => (List.mem_append.mp h).elim (wsL_i6 w) ((fun w h => (List.mem_append.mp h).elim (wsL_i7 w) ((fun w h => (List.mem_append.mp h).elim (wsL_i8 w) ((fun w h => (List.mem_append.mp h).elim (wsL_i9 w) ((fun w h => (List.mem_append.mp h).elim (wsL_i10 w) ((fun w h => (List.mem_append.mp h).elim (wsL_i11 w) ((fun w h => (List.mem_append.mp h).elim (wsL_i12 w) ((fun w h => (List.mem_append.mp h).elim (wsL_i13 w) ((fun w h => (List.mem_append.mp h).elim (wsL_i14 w) ((fun w h => (List.mem_append.mp h).elim (wsL_i15 w) ((fun w h => (List.mem_append.mp h).elim (wsL_i16 w) ((fun w h => (List.mem_append.mp h).elim (wsL_i17 w) ((fun w h => (List.mem_append.mp h).elim (wsL_i18 w) ((fun w h => (List.mem_append.mp h).elim (wsL_i19 w) ((fun w h => (List.mem_append.mp h).elim (wsL_i20 w) ((fun w h => (List.mem_append.mp h).elim (wsL_i21 w) ((fun w h => (List.mem_append.mp h).elim (wsL_i22 w) ((fun w h => (List.mem_append.mp h).elim (wsL_i23 w) ((fun w h => (List.mem_append.mp h).elim (wsL_i24 w) ((fun w h => (List.mem_append.mp h).elim (wsL_i25 w) ((fun w h => (List.mem_append.mp h).elim (wsL_i26 w) ((fun w h => (List.mem_append.mp h).elim (wsL_i27 w) ((fun w h => (List.mem_append.mp h).elim (wsL_i28 w) ((fun w h => (List.mem_append.mp h).elim (wsL_i29 w) ((fun w h => (List.mem_append.mp h).elim (wsL_i30 w) ((fun w h => (List.mem_append.mp h).elim (wsL_i31 w) ((fun w h => wsL_i32 w h) w)) w)) w)) w)) w)) w)) w)) w)) w)) w)) w)) w)) w)) w)) w)) w)) w)) w)) w)) w)) w)) w)) w)) w)) w)) w)) w)) w)) w)) w)) w)
set_option maxRecDepth 20000 in
theorem inX6 : ∀ w ∈ wsX60, w ∈ lw_tbl := by decide +kernel
set_option maxRecDepth 20000 in
theorem inX7 : ∀ w ∈ wsX70, w ∈ lw_tbl := by decide +kernel
set_option maxRecDepth 20000 in
theorem inX4 : ∀ w ∈ wsX40, w ∈ lw_tbl := by decide +kernel
set_option maxRecDepth 20000 in
theorem inX1 : ∀ w ∈ wsX10, w ∈ lw_tbl := by decide +kernel
set_option maxRecDepth 20000 in
theorem inX2 : ∀ w ∈ wsX20, w ∈ lw_tbl := by decide +kernel
set_option maxRecDepth 20000 in
theorem inX0 : ∀ w ∈ wsX00, w ∈ lw_tbl := by decide +kernel
set_option maxRecDepth 20000 in
theorem inX5 : ∀ w ∈ wsX50, w ∈ lw_tbl := by decide +kernel
set_option maxRecDepth 20000 in
theorem inX3 : ∀ w ∈ wsX30, w ∈ lw_tbl := by decide +kernel
theorem wsL_law_in : ∀ w ∈ wsL_law, w ∈ lw_tbl := fun w => (fun h => (List.mem_append.mp h).elim (fun h => (List.mem_append.mp h).elim (fun h => (List.mem_append.mp h).elim (fun h => (List.mem_append.mp h).elim (fun h => (List.mem_append.mp h).elim (fun h => (List.mem_append.mp h).elim (fun h => (List.mem_append.mp h).elim (fun h => (List.mem_append.mp h).elim (fun h => (List.mem_append.mp h).elim (fun h => wsL_iA w h) (inX6 w)) (inX7 w)) (inX4 w)) (inX1 w)) (inX2 w)) (inX0 w)) (inX5 w)) (inX3 w)) (fun h => absurd h List.not_mem_nil))
