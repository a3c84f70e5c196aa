theorem mem_places {big : List Cond} (ws : List Cond) (ps : List Nat) (hp : ws = ps.filterMap (fun i => big[i]?)) : ∀ w ∈ ws, w ∈ big := by
  intro w hw
  rw [hp] at hw
  obtain ⟨i, -, hi⟩ := List.mem_filterMap.mp hw
  exact List.mem_of_getElem? hi
set_option maxRecDepth 20000 in
theorem in_wsL_law_r1 : ∀ w ∈ wsL_law_r1, w ∈ lw_tbl := mem_places _ [59, 60, 42, 760, 761, 52, 61, 62, 63, 64, 65, 66, 67, 68, 43, 242, 83, 84, 44, 243, 244, 114, 115, 45] (by decide +kernel)
set_option maxRecDepth 20000 in
theorem in_wsL_law_r2 : ∀ w ∈ wsL_law_r2, w ∈ lw_tbl := mem_places _ [245, 124, 125, 46, 246, 247, 141, 142, 47, 248, 162, 163, 48, 249, 186, 187, 49, 250, 199, 200, 50, 251, 252, 215] (by decide +kernel)
set_option maxRecDepth 20000 in
theorem in_wsL_law_r3 : ∀ w ∈ wsL_law_r3, w ∈ lw_tbl := mem_places _ [216, 51, 253, 254, 70, 71, 72, 82, 73, 74, 86, 87, 88, 89, 90, 91, 92, 94, 97, 98, 117, 118, 119, 120] (by decide +kernel)
set_option maxRecDepth 20000 in
theorem in_wsL_law_r4 : ∀ w ∈ wsL_law_r4, w ∈ lw_tbl := mem_places _ [126, 127, 128, 129, 131, 130, 143, 144, 145, 146, 147, 150, 151, 152, 149, 164, 165, 166, 167, 185, 172, 173, 168, 170] (by decide +kernel)
set_option maxRecDepth 20000 in
theorem in_wsL_law_r5 : ∀ w ∈ wsL_law_r5, w ∈ lw_tbl := mem_places _ [171, 188, 189, 190, 191, 193, 192, 201, 202, 203, 204, 206, 207, 205, 217, 218, 219, 220, 225, 221, 226, 228, 222, 223] (by decide +kernel)
set_option maxRecDepth 20000 in
theorem in_wsL_law_r6 : ∀ w ∈ wsL_law_r6, w ∈ lw_tbl := mem_places _ [224, 762, 763, 764, 765, 767, 768, 769, 770, 773, 775, 776, 777, 779, 780, 781, 782, 783, 784, 785, 875, 789, 790, 792] (by decide +kernel)
set_option maxRecDepth 20000 in
theorem in_wsL_law_r7 : ∀ w ∈ wsL_law_r7, w ∈ lw_tbl := mem_places _ [793, 794, 795, 796, 797, 798, 799, 800, 801, 282, 283, 284, 285, 76, 286, 287, 288, 289, 876, 877, 878, 879, 766, 880] (by decide +kernel)
set_option maxRecDepth 20000 in
theorem in_wsL_law_r8 : ∀ w ∈ wsL_law_r8, w ∈ lw_tbl := mem_places _ [881, 882, 290, 291, 292, 293, 883, 884, 885, 886, 294, 295, 296, 297, 298, 299, 53, 300, 75, 301, 302, 303, 304, 305] (by decide +kernel)
set_option maxRecDepth 20000 in
theorem in_wsL_law_r9 : ∀ w ∈ wsL_law_r9, w ∈ lw_tbl := mem_places _ [306, 54, 307, 308, 309, 310, 311, 312, 313, 314, 315, 316, 317, 318, 320, 321, 322, 323, 324, 325, 326, 327, 328, 329] (by decide +kernel)
set_option maxRecDepth 20000 in
theorem in_wsL_law_r10 : ∀ w ∈ wsL_law_r10, w ∈ lw_tbl := mem_places _ [330, 331, 332, 333, 334, 335, 336, 337, 339, 0, 340, 341, 342, 343, 344, 345, 346, 347, 348, 349, 350, 351, 352, 353] (by decide +kernel)
set_option maxRecDepth 20000 in
theorem in_wsL_law_r11 : ∀ w ∈ wsL_law_r11, w ∈ lw_tbl := mem_places _ [354, 356, 1, 357, 358, 359, 360, 361, 362, 363, 364, 365, 366, 367, 368, 369, 887, 888, 889, 890, 891, 893, 22, 894] (by decide +kernel)
set_option maxRecDepth 20000 in
theorem in_wsL_law_r12 : ∀ w ∈ wsL_law_r12, w ∈ lw_tbl := mem_places _ [370, 371, 372, 373, 93, 374, 375, 376, 377, 378, 380, 379, 55, 381, 383, 2, 384, 385, 386, 387, 388, 389, 390, 56] (by decide +kernel)
set_option maxRecDepth 20000 in
theorem in_wsL_law_r13 : ∀ w ∈ wsL_law_r13, w ∈ lw_tbl := mem_places _ [391, 392, 393, 394, 895, 896, 897, 898, 771, 899, 901, 23, 902, 395, 396, 397, 398, 399, 400, 401, 402, 403, 404, 405] (by decide +kernel)
set_option maxRecDepth 20000 in
theorem in_wsL_law_r14 : ∀ w ∈ wsL_law_r14, w ∈ lw_tbl := mem_places _ [406, 407, 408, 409, 410, 411, 412, 903, 904, 905, 906, 907, 908, 909, 413, 414, 415, 416, 417, 419, 3, 420, 421, 422] (by decide +kernel)
set_option maxRecDepth 20000 in
theorem in_wsL_law_r15 : ∀ w ∈ wsL_law_r15, w ∈ lw_tbl := mem_places _ [423, 424, 133, 425, 426, 427, 428, 429, 431, 4, 432, 433, 434, 435, 437, 5, 438, 439, 440, 441, 442, 443, 445, 6] (by decide +kernel)
set_option maxRecDepth 20000 in
theorem in_wsL_law_r16 : ∀ w ∈ wsL_law_r16, w ∈ lw_tbl := mem_places _ [446, 459, 460, 57, 461, 447, 448, 449, 450, 451, 452, 453, 454, 455, 456, 457, 458, 462, 463, 58, 464, 465, 466, 468] (by decide +kernel)
set_option maxRecDepth 20000 in
theorem in_wsL_law_r17 : ∀ w ∈ wsL_law_r17, w ∈ lw_tbl := mem_places _ [7, 469, 470, 472, 8, 473, 474, 475, 477, 9, 478, 507, 508, 509, 479, 480, 481, 482, 483, 485, 10, 486, 487, 488] (by decide +kernel)
set_option maxRecDepth 20000 in
theorem in_wsL_law_r18 : ∀ w ∈ wsL_law_r18, w ∈ lw_tbl := mem_places _ [489, 491, 11, 492, 493, 494, 495, 496, 497, 498, 499, 500, 501, 502, 503, 504, 505, 506, 510, 511, 512, 513, 514, 515] (by decide +kernel)
set_option maxRecDepth 20000 in
theorem in_wsL_law_r19 : ∀ w ∈ wsL_law_r19, w ∈ lw_tbl := mem_places _ [516, 517, 518, 519, 520, 521, 522, 523, 524, 910, 911, 912, 913, 778, 918, 914, 916, 24, 917, 919, 921, 25, 922, 786] (by decide +kernel)
set_option maxRecDepth 20000 in
theorem in_wsL_law_r20 : ∀ w ∈ wsL_law_r20, w ∈ lw_tbl := mem_places _ [787, 788, 923, 925, 26, 926, 927, 928, 929, 525, 526, 527, 528, 930, 931, 932, 933, 529, 530, 531, 532, 135, 533, 534] (by decide +kernel)
set_option maxRecDepth 20000 in
theorem in_wsL_law_r21 : ∀ w ∈ wsL_law_r21, w ∈ lw_tbl := mem_places _ [535, 536, 537, 538, 539, 540, 541, 542, 543, 544, 545, 546, 934, 935, 936, 937, 772, 547, 548, 549, 550, 551, 552, 553] (by decide +kernel)
set_option maxRecDepth 20000 in
theorem in_wsL_law_r22 : ∀ w ∈ wsL_law_r22, w ∈ lw_tbl := mem_places _ [554, 555, 556, 557, 938, 939, 940, 941, 942, 944, 27, 945, 558, 559, 560, 561, 562, 563, 564, 565, 566, 567, 568, 569] (by decide +kernel)
set_option maxRecDepth 20000 in
theorem in_wsL_law_r23 : ∀ w ∈ wsL_law_r23, w ∈ lw_tbl := mem_places _ [570, 571, 573, 12, 574, 169, 575, 576, 577, 579, 13, 580, 599, 600, 601, 581, 582, 583, 584, 585, 586, 587, 589, 14] (by decide +kernel)
set_option maxRecDepth 20000 in
theorem in_wsL_law_r24 : ∀ w ∈ wsL_law_r24, w ∈ lw_tbl := mem_places _ [590, 591, 593, 15, 594, 595, 596, 597, 598, 602, 604, 16, 605, 606, 946, 947, 948, 949, 950, 952, 28, 953, 954, 956] (by decide +kernel)
set_option maxRecDepth 20000 in
theorem in_wsL_law_r25 : ∀ w ∈ wsL_law_r25, w ∈ lw_tbl := mem_places _ [29, 957, 958, 960, 30, 961, 962, 964, 31, 965, 607, 608, 609, 610, 611, 612, 613, 614, 615, 616, 617, 618, 966, 967] (by decide +kernel)
set_option maxRecDepth 20000 in
theorem in_wsL_law_r26 : ∀ w ∈ wsL_law_r26, w ∈ lw_tbl := mem_places _ [968, 969, 619, 620, 621, 622, 623, 624, 970, 971, 972, 973, 625, 626, 627, 628, 629, 631, 17, 632, 96, 633, 634, 635] (by decide +kernel)
set_option maxRecDepth 20000 in
theorem in_wsL_law_r27 : ∀ w ∈ wsL_law_r27, w ∈ lw_tbl := mem_places _ [974, 975, 976, 977, 978, 980, 32, 981, 636, 637, 638, 639, 668, 669, 640, 642, 18, 643, 644, 645, 646, 647, 132, 648] (by decide +kernel)
set_option maxRecDepth 20000 in
theorem in_wsL_law_r28 : ∀ w ∈ wsL_law_r28, w ∈ lw_tbl := mem_places _ [650, 19, 651, 652, 653, 654, 656, 20, 657, 658, 659, 660, 661, 662, 663, 664, 665, 666, 667, 982, 983, 984, 985, 1006] (by decide +kernel)
set_option maxRecDepth 20000 in
theorem in_wsL_law_r29 : ∀ w ∈ wsL_law_r29, w ∈ lw_tbl := mem_places _ [1007, 986, 988, 33, 989, 791, 990, 992, 34, 993, 994, 996, 35, 997, 998, 1000, 36, 1001, 1002, 1004, 37, 1005, 670, 671] (by decide +kernel)
set_option maxRecDepth 20000 in
theorem in_wsL_law_r30 : ∀ w ∈ wsL_law_r30, w ∈ lw_tbl := mem_places _ [672, 673, 674, 676, 21, 677, 678, 679, 680, 681, 682, 1008, 1009, 1010, 1011, 683, 684, 685, 686, 154, 687, 688, 689, 690] (by decide +kernel)
set_option maxRecDepth 20000 in
theorem in_wsL_law_r31 : ∀ w ∈ wsL_law_r31, w ∈ lw_tbl := mem_places _ [691, 692, 693, 694, 695, 696, 697, 698, 699, 700, 701, 702, 703, 704, 705, 1012, 1013, 1014, 1015, 774, 706, 707, 708, 709] (by decide +kernel)
set_option maxRecDepth 20000 in
theorem in_wsL_law_r32 : ∀ w ∈ wsL_law_r32, w ∈ lw_tbl := mem_places _ [1016, 1017, 1018, 1019, 710, 711, 712, 713, 714, 715, 1020, 1021, 1022, 1023, 1024, 1026, 38, 1027, 716, 717, 718, 719, 720, 721] (by decide +kernel)
set_option maxRecDepth 20000 in
theorem in_wsL_law_r33 : ∀ w ∈ wsL_law_r33, w ∈ lw_tbl := mem_places _ [722, 723, 724, 153, 95, 134, 728, 730, 725, 726, 727, 729, 1028, 1029, 1030, 1031, 1032, 1034, 39, 1035, 731, 732, 733, 734] (by decide +kernel)
set_option maxRecDepth 20000 in
theorem in_wsL_law_r34 : ∀ w ∈ wsL_law_r34, w ∈ lw_tbl := mem_places _ [227, 735, 736, 737, 738, 739, 740, 741, 742, 743, 744, 745, 746, 747, 748, 749, 750, 751, 752, 753, 754, 755, 1036, 1037] (by decide +kernel)
set_option maxRecDepth 20000 in
theorem in_wsL_law_r35 : ∀ w ∈ wsL_law_r35, w ∈ lw_tbl := mem_places _ [1038, 1039, 1040, 1042, 40, 1043, 756, 757, 758, 759, 1044, 1045, 1046, 1047] (by decide +kernel)
set_option maxRecDepth 20000 in
theorem inX0 : ∀ w ∈ wsX00, w ∈ lw_tbl := mem_places _ [174, 176, 178, 180, 182] (by decide +kernel)
set_option maxRecDepth 20000 in
theorem inX1 : ∀ w ∈ wsX10, w ∈ lw_tbl := mem_places _ [121] (by decide +kernel)
set_option maxRecDepth 20000 in
theorem inX2 : ∀ w ∈ wsX20, w ∈ lw_tbl := mem_places _ [155, 157, 159] (by decide +kernel)
set_option maxRecDepth 20000 in
theorem inX3 : ∀ w ∈ wsX30, w ∈ lw_tbl := mem_places _ [] (by decide +kernel)
set_option maxRecDepth 20000 in
theorem inX4 : ∀ w ∈ wsX40, w ∈ lw_tbl := mem_places _ [99, 101, 103, 105, 107, 109, 111] (by decide +kernel)
set_option maxRecDepth 20000 in
theorem inX5 : ∀ w ∈ wsX50, w ∈ lw_tbl := mem_places _ [77, 79] (by decide +kernel)
set_option maxRecDepth 20000 in
theorem inX6 : ∀ w ∈ wsX60, w ∈ lw_tbl := mem_places _ [194, 196] (by decide +kernel)
set_option maxRecDepth 20000 in
theorem inX7 : ∀ w ∈ wsX70, w ∈ lw_tbl := mem_places _ [208, 210, 212] (by decide +kernel)
set_option maxRecDepth 20000 in
theorem inX8 : ∀ w ∈ wsX80, w ∈ lw_tbl := mem_places _ [] (by decide +kernel)
set_option maxRecDepth 20000 in
theorem inX9 : ∀ w ∈ wsX90, w ∈ lw_tbl := mem_places _ [229, 231, 233, 235, 237, 239] (by decide +kernel)
set_option maxRecDepth 20000 in
theorem inX10 : ∀ w ∈ wsX100, w ∈ lw_tbl := mem_places _ [136, 138] (by decide +kernel)
set_option maxRecDepth 20000 in
theorem inX11 : ∀ w ∈ wsX110, w ∈ lw_tbl := mem_places _ [255, 257, 259, 261, 263, 265, 267, 269, 271, 273, 275, 277, 279] (by decide +kernel)
set_option maxRecDepth 20000 in
theorem inX12 : ∀ w ∈ wsX120, w ∈ lw_tbl := mem_places _ [802, 804, 806, 808, 810, 812, 814, 816, 818, 820, 822, 824, 826, 828, 830, 832, 834, 836, 838, 840, 842, 844, 846, 848, 850, 852, 854, 856, 858, 860, 862, 864, 866, 868, 870, 872] (by decide +kernel)
theorem mem_two {A B T : List Cond} (ha : ∀ w ∈ A, w ∈ T) (hb : ∀ w ∈ B, w ∈ T) : ∀ w ∈ A ++ B, w ∈ T := fun w h => (List.mem_append.mp h).elim (ha w) (hb w)
theorem wsL_law_in : ∀ w ∈ wsL_law, w ∈ lw_tbl := mem_two (mem_two (mem_two (mem_two (mem_two (mem_two (mem_two (mem_two (mem_two (mem_two (mem_two (mem_two (mem_two in_wsL_law_r1 (mem_two in_wsL_law_r2 (mem_two in_wsL_law_r3 (mem_two in_wsL_law_r4 (mem_two in_wsL_law_r5 (mem_two in_wsL_law_r6 (mem_two in_wsL_law_r7 (mem_two in_wsL_law_r8 (mem_two in_wsL_law_r9 (mem_two in_wsL_law_r10 (mem_two in_wsL_law_r11 (mem_two in_wsL_law_r12 (mem_two in_wsL_law_r13 (mem_two in_wsL_law_r14 (mem_two in_wsL_law_r15 (mem_two in_wsL_law_r16 (mem_two in_wsL_law_r17 (mem_two in_wsL_law_r18 (mem_two in_wsL_law_r19 (mem_two in_wsL_law_r20 (mem_two in_wsL_law_r21 (mem_two in_wsL_law_r22 (mem_two in_wsL_law_r23 (mem_two in_wsL_law_r24 (mem_two in_wsL_law_r25 (mem_two in_wsL_law_r26 (mem_two in_wsL_law_r27 (mem_two in_wsL_law_r28 (mem_two in_wsL_law_r29 (mem_two in_wsL_law_r30 (mem_two in_wsL_law_r31 (mem_two in_wsL_law_r32 (mem_two in_wsL_law_r33 (mem_two in_wsL_law_r34 in_wsL_law_r35)))))))))))))))))))))))))))))))))) inX11) inX12) inX5) inX4) inX1) inX10) inX2) inX0) inX6) inX7) inX9) (fun _ h => absurd h List.not_mem_nil)
theorem inJ6 : ∀ w ∈ wsJ60, w ∈ lw_tbl := by decide +kernel
theorem inJ9 : ∀ w ∈ wsJ90, w ∈ lw_tbl := by decide +kernel
theorem inJ10 : ∀ w ∈ wsJ100, w ∈ lw_tbl := by decide +kernel
theorem inJ7 : ∀ w ∈ wsJ70, w ∈ lw_tbl := by decide +kernel
