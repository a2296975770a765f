theorem mem_r {big : List Cond} (ws : List Cond) (ps : List Nat) (hp : ws = ps.filterMap (fun i => big[i]?)) : ∀ w ∈ ws, w ∈ big := by
  intro w hw
  rw [hp] at hw
  obtain ⟨i, -, hi⟩ := List.mem_filterMap.mp hw
  exact List.mem_of_getElem? hi
set_option maxRecDepth 20000 in
theorem i_wsL_law_r1 : ∀ w ∈ wsL_law_r1, w ∈ lw_tbl := fun w h => mem_r wsL_law_r1 [55, 56, 45, 641, 642, 52, 977, 57, 58, 59, 60, 61, 62, 92, 203, 63, 64, 46, 205, 206, 94, 95, 47, 207] (by decide +kernel) w h
set_option maxRecDepth 20000 in
theorem i_wsL_law_r2 : ∀ w ∈ wsL_law_r2, w ∈ lw_tbl := fun w h => mem_r wsL_law_r2 [208, 127, 128, 48, 209, 210, 147, 148, 49, 212, 167, 168, 50, 213, 190, 191, 51, 214, 93, 215, 66, 67, 68, 69] (by decide +kernel) w h
set_option maxRecDepth 20000 in
theorem i_wsL_law_r3 : ∀ w ∈ wsL_law_r3, w ∈ lw_tbl := fun w h => mem_r wsL_law_r3 [73, 75, 97, 98, 99, 100, 129, 130, 131, 132, 133, 136, 150, 151, 152, 153, 154, 155, 169, 170, 171, 172, 173, 175] (by decide +kernel) w h
set_option maxRecDepth 20000 in
theorem i_wsL_law_r4 : ∀ w ∈ wsL_law_r4, w ∈ lw_tbl := fun w h => mem_r wsL_law_r4 [193, 194, 195, 196, 197, 643, 644, 645, 646, 648, 649, 650, 651, 652, 653, 654, 658, 662, 665, 666, 667, 720, 669, 670] (by decide +kernel) w h
set_option maxRecDepth 20000 in
theorem i_wsL_law_r5 : ∀ w ∈ wsL_law_r5, w ∈ lw_tbl := fun w h => mem_r wsL_law_r5 [246, 247, 248, 249, 204, 721, 722, 723, 724, 725, 655, 726, 727, 728, 250, 251, 252, 253, 729, 730, 731, 732, 254, 255] (by decide +kernel) w h
set_option maxRecDepth 20000 in
theorem i_wsL_law_r6 : ∀ w ∈ wsL_law_r6, w ∈ lw_tbl := fun w h => mem_r wsL_law_r6 [256, 257, 258, 260, 0, 261, 262, 263, 264, 265, 77, 80, 266, 267, 268, 269, 270, 271, 272, 273, 274, 53, 275, 276] (by decide +kernel) w h
set_option maxRecDepth 20000 in
theorem i_wsL_law_r7 : ∀ w ∈ wsL_law_r7, w ∈ lw_tbl := fun w h => mem_r wsL_law_r7 [277, 278, 281, 283, 1, 284, 285, 286, 287, 288, 289, 290, 291, 293, 294, 295, 296, 297, 298, 299, 300, 301, 302, 303] (by decide +kernel) w h
set_option maxRecDepth 20000 in
theorem i_wsL_law_r8 : ∀ w ∈ wsL_law_r8, w ∈ lw_tbl := fun w h => mem_r wsL_law_r8 [305, 2, 306, 308, 309, 733, 734, 735, 736, 737, 739, 19, 740, 656, 657, 741, 743, 20, 744, 745, 746, 747, 748, 750] (by decide +kernel) w h
set_option maxRecDepth 20000 in
theorem i_wsL_law_r9 : ∀ w ∈ wsL_law_r9, w ∈ lw_tbl := fun w h => mem_r wsL_law_r9 [21, 751, 752, 756, 753, 754, 755, 310, 311, 312, 313, 211, 72, 79, 314, 315, 316, 317, 70, 104, 108, 111, 114, 78] (by decide +kernel) w h
set_option maxRecDepth 20000 in
theorem i_wsL_law_r10 : ∀ w ∈ wsL_law_r10, w ∈ lw_tbl := fun w h => mem_r wsL_law_r10 [76, 318, 319, 320, 321, 137, 138, 322, 757, 758, 759, 760, 647, 660, 323, 324, 325, 326, 109, 112, 327, 328, 329, 330] (by decide +kernel) w h
set_option maxRecDepth 20000 in
theorem i_wsL_law_r11 : ∀ w ∈ wsL_law_r11, w ∈ lw_tbl := fun w h => mem_r wsL_law_r11 [331, 332, 333, 334, 335, 761, 762, 763, 764, 765, 766, 767, 768, 770, 22, 771, 772, 774, 23, 775, 336, 337, 338, 339] (by decide +kernel) w h
set_option maxRecDepth 20000 in
theorem i_wsL_law_r12 : ∀ w ∈ wsL_law_r12, w ∈ lw_tbl := fun w h => mem_r wsL_law_r12 [74, 102, 340, 341, 342, 343, 344, 346, 3, 347, 348, 350, 4, 351, 352, 354, 5, 355, 356, 357, 358, 359, 360, 361] (by decide +kernel) w h
set_option maxRecDepth 20000 in
theorem i_wsL_law_r13 : ∀ w ∈ wsL_law_r13, w ∈ lw_tbl := fun w h => mem_r wsL_law_r13 [362, 363, 103, 364, 366, 6, 367, 369, 371, 7, 372, 373, 374, 375, 376, 106, 113, 377, 378, 379, 380, 110, 381, 382] (by decide +kernel) w h
set_option maxRecDepth 20000 in
theorem i_wsL_law_r14 : ∀ w ∈ wsL_law_r14, w ∈ lw_tbl := fun w h => mem_r wsL_law_r14 [383, 384, 385, 386, 387, 388, 389, 391, 8, 392, 393, 395, 9, 396, 397, 398, 399, 400, 776, 777, 778, 779, 780, 782] (by decide +kernel) w h
set_option maxRecDepth 20000 in
theorem i_wsL_law_r15 : ∀ w ∈ wsL_law_r15, w ∈ lw_tbl := fun w h => mem_r wsL_law_r15 [24, 783, 784, 786, 25, 787, 788, 790, 26, 791, 792, 794, 27, 795, 659, 796, 798, 28, 799, 800, 802, 29, 803, 804] (by decide +kernel) w h
set_option maxRecDepth 20000 in
theorem i_wsL_law_r16 : ∀ w ∈ wsL_law_r16, w ∈ lw_tbl := fun w h => mem_r wsL_law_r16 [805, 806, 807, 809, 30, 810, 811, 813, 31, 814, 815, 817, 32, 818, 401, 402, 403, 404, 115, 405, 406, 407, 408, 409] (by decide +kernel) w h
set_option maxRecDepth 20000 in
theorem i_wsL_law_r17 : ∀ w ∈ wsL_law_r17, w ∈ lw_tbl := fun w h => mem_r wsL_law_r17 [410, 411, 412, 413, 414, 415, 416, 417, 418, 419, 420, 421, 819, 820, 821, 822, 823, 825, 33, 826, 661, 422, 423, 424] (by decide +kernel) w h
set_option maxRecDepth 20000 in
theorem i_wsL_law_r18 : ∀ w ∈ wsL_law_r18, w ∈ lw_tbl := fun w h => mem_r wsL_law_r18 [425, 426, 427, 428, 827, 828, 829, 830, 429, 430, 431, 432, 433, 434, 435, 436, 831, 832, 833, 834, 835, 837, 34, 838] (by decide +kernel) w h
set_option maxRecDepth 20000 in
theorem i_wsL_law_r19 : ∀ w ∈ wsL_law_r19, w ∈ lw_tbl := fun w h => mem_r wsL_law_r19 [437, 438, 439, 440, 441, 442, 443, 444, 839, 840, 841, 842, 445, 446, 447, 448, 843, 844, 845, 846, 449, 450, 451, 452] (by decide +kernel) w h
set_option maxRecDepth 20000 in
theorem i_wsL_law_r20 : ∀ w ∈ wsL_law_r20, w ∈ lw_tbl := fun w h => mem_r wsL_law_r20 [847, 848, 849, 850, 453, 454, 455, 456, 180, 178, 457, 458, 459, 460, 177, 179, 461, 462, 464, 10, 465, 466, 467, 468] (by decide +kernel) w h
set_option maxRecDepth 20000 in
theorem i_wsL_law_r21 : ∀ w ∈ wsL_law_r21, w ∈ lw_tbl := fun w h => mem_r wsL_law_r21 [469, 470, 471, 472, 473, 474, 475, 851, 852, 853, 854, 855, 856, 857, 858, 860, 35, 861, 862, 863, 864, 476, 477, 478] (by decide +kernel) w h
set_option maxRecDepth 20000 in
theorem i_wsL_law_r22 : ∀ w ∈ wsL_law_r22, w ∈ lw_tbl := fun w h => mem_r wsL_law_r22 [479, 480, 481, 482, 483, 484, 486, 11, 487, 101, 865, 866, 867, 868, 489, 490, 491, 492, 493, 494, 495, 496, 176, 497] (by decide +kernel) w h
set_option maxRecDepth 20000 in
theorem i_wsL_law_r23 : ∀ w ∈ wsL_law_r23, w ∈ lw_tbl := fun w h => mem_r wsL_law_r23 [498, 499, 105, 502, 503, 54, 504, 500, 501, 505, 507, 12, 508, 869, 870, 871, 872, 873, 663, 874, 876, 36, 877, 509] (by decide +kernel) w h
set_option maxRecDepth 20000 in
theorem i_wsL_law_r24 : ∀ w ∈ wsL_law_r24, w ∈ lw_tbl := fun w h => mem_r wsL_law_r24 [510, 511, 512, 513, 515, 13, 516, 878, 879, 880, 881, 517, 518, 519, 520, 521, 522, 524, 14, 525, 526, 527, 528, 529] (by decide +kernel) w h
set_option maxRecDepth 20000 in
theorem i_wsL_law_r25 : ∀ w ∈ wsL_law_r25, w ∈ lw_tbl := fun w h => mem_r wsL_law_r25 [530, 531, 533, 15, 534, 882, 883, 884, 885, 889, 886, 887, 888, 890, 892, 37, 893, 894, 896, 38, 897, 535, 536, 537] (by decide +kernel) w h
set_option maxRecDepth 20000 in
theorem i_wsL_law_r26 : ∀ w ∈ wsL_law_r26, w ∈ lw_tbl := fun w h => mem_r wsL_law_r26 [538, 539, 540, 541, 542, 156, 898, 899, 900, 901, 902, 664, 543, 544, 545, 546, 157, 903, 904, 905, 906, 547, 548, 549] (by decide +kernel) w h
set_option maxRecDepth 20000 in
theorem i_wsL_law_r27 : ∀ w ∈ wsL_law_r27, w ∈ lw_tbl := fun w h => mem_r wsL_law_r27 [550, 551, 552, 553, 554, 555, 71, 557, 558, 559, 907, 908, 909, 910, 911, 913, 39, 914, 561, 562, 563, 564, 574, 565] (by decide +kernel) w h
set_option maxRecDepth 20000 in
theorem i_wsL_law_r28 : ∀ w ∈ wsL_law_r28, w ∈ lw_tbl := fun w h => mem_r wsL_law_r28 [567, 16, 568, 569, 570, 571, 572, 576, 577, 578, 579, 580, 581, 915, 916, 917, 918, 919, 920, 921, 922, 924, 40, 925] (by decide +kernel) w h
set_option maxRecDepth 20000 in
theorem i_wsL_law_r29 : ∀ w ∈ wsL_law_r29, w ∈ lw_tbl := fun w h => mem_r wsL_law_r29 [926, 927, 928, 582, 583, 584, 585, 586, 588, 17, 589, 590, 591, 592, 593, 594, 595, 596, 597, 598, 929, 930, 931, 932] (by decide +kernel) w h
set_option maxRecDepth 20000 in
theorem i_wsL_law_r30 : ∀ w ∈ wsL_law_r30, w ∈ lw_tbl := fun w h => mem_r wsL_law_r30 [933, 935, 41, 936, 937, 939, 42, 940, 599, 600, 601, 602, 606, 603, 604, 605, 608, 609, 610, 611, 613, 18, 614, 941] (by decide +kernel) w h
set_option maxRecDepth 20000 in
theorem i_wsL_law_r31 : ∀ w ∈ wsL_law_r31, w ∈ lw_tbl := fun w h => mem_r wsL_law_r31 [942, 943, 944, 948, 945, 946, 947, 615, 616, 617, 618, 216, 949, 950, 951, 952, 668, 619, 620, 621, 622, 623, 624, 625] (by decide +kernel) w h
set_option maxRecDepth 20000 in
theorem i_wsL_law_r32 : ∀ w ∈ wsL_law_r32, w ∈ lw_tbl := fun w h => mem_r wsL_law_r32 [953, 954, 955, 956, 957, 958, 959, 960, 626, 627, 628, 629, 630, 631, 632, 961, 962, 963, 964, 633, 634, 635, 636, 965] (by decide +kernel) w h
set_option maxRecDepth 20000 in
theorem i_wsL_law_r33 : ∀ w ∈ wsL_law_r33, w ∈ lw_tbl := fun w h => mem_r wsL_law_r33 [966, 967, 968, 637, 638, 639, 640, 107, 139, 969, 970, 971, 972, 973, 975, 43, 976] (by decide +kernel) w h
set_option maxRecDepth 20000 in
theorem i_wsX60 : ∀ w ∈ wsX60, w ∈ lw_tbl := by decide +kernel
set_option maxRecDepth 20000 in
theorem i_wsX70 : ∀ w ∈ wsX70, w ∈ lw_tbl := by decide +kernel
set_option maxRecDepth 20000 in
theorem i_wsX50 : ∀ w ∈ wsX50, w ∈ lw_tbl := by decide +kernel
set_option maxRecDepth 20000 in
theorem i_wsX40 : ∀ w ∈ wsX40, w ∈ lw_tbl := by decide +kernel
set_option maxRecDepth 20000 in
theorem i_wsX00 : ∀ w ∈ wsX00, w ∈ lw_tbl := by decide +kernel
set_option maxRecDepth 20000 in
theorem i_wsX30 : ∀ w ∈ wsX30, w ∈ lw_tbl := by decide +kernel
set_option maxRecDepth 20000 in
theorem i_wsX20 : ∀ w ∈ wsX20, w ∈ lw_tbl := by decide +kernel
set_option maxRecDepth 20000 in
theorem i_wsX10 : ∀ w ∈ wsX10, w ∈ lw_tbl := by decide +kernel
theorem memA {big a b : List Cond} (ha : ∀ w ∈ a, w ∈ big) (hb : ∀ w ∈ b, w ∈ big) : ∀ w ∈ a ++ b, w ∈ big := fun w h => (List.mem_append.mp h).elim (ha w) (hb w)
theorem wsL_law_in : ∀ w ∈ wsL_law, w ∈ lw_tbl := memA (memA (memA (memA (memA (memA (memA (memA (memA (memA i_wsL_law_r1 (memA i_wsL_law_r2 (memA i_wsL_law_r3 (memA i_wsL_law_r4 (memA i_wsL_law_r5 (memA i_wsL_law_r6 (memA i_wsL_law_r7 (memA i_wsL_law_r8 (memA i_wsL_law_r9 (memA i_wsL_law_r10 (memA i_wsL_law_r11 (memA i_wsL_law_r12 (memA i_wsL_law_r13 (memA i_wsL_law_r14 (memA i_wsL_law_r15 (memA i_wsL_law_r16 (memA i_wsL_law_r17 (memA i_wsL_law_r18 (memA i_wsL_law_r19 (memA i_wsL_law_r20 (memA i_wsL_law_r21 (memA i_wsL_law_r22 (memA i_wsL_law_r23 (memA i_wsL_law_r24 (memA i_wsL_law_r25 (memA i_wsL_law_r26 (memA i_wsL_law_r27 (memA i_wsL_law_r28 (memA i_wsL_law_r29 (memA i_wsL_law_r30 (memA i_wsL_law_r31 (memA i_wsL_law_r32 (i_wsL_law_r33))))))))))))))))))))))))))))))))) i_wsX60) i_wsX70) i_wsX50) i_wsX40) i_wsX00) i_wsX30) i_wsX20) i_wsX10) (fun w h => absurd h List.not_mem_nil)
