theorem wq_fm {big ws : List Cond} (ps : List Nat) (hp : ws = ps.filterMap (fun i => big[i]?)) : ∀ w ∈ ws, w ∈ big := by
  intro w hw
  rw [hp] at hw
  obtain ⟨i, -, hi⟩ := List.mem_filterMap.mp hw
  first | exact List.mem_of_getElem? hi | exact List.getElem?_mem hi
set_option maxRecDepth 20000 in
theorem wq_wsL_law_r1 : ∀ w ∈ wsL_law_r1, w ∈ lw_tbl := wq_fm [52, 53, 40, 663, 664, 47, 973, 54, 55, 56, 57, 58, 59, 60, 61, 41, 179, 180, 107, 108, 44, 181, 138, 139] (by decide +kernel)
set_option maxRecDepth 20000 in
theorem wq_wsL_law_r2 : ∀ w ∈ wsL_law_r2, w ∈ lw_tbl := wq_fm [45, 182, 162, 183, 184, 185, 164, 46, 62, 63, 64, 65, 66, 67, 42, 97, 98, 99, 69, 70, 71, 72, 73, 43] (by decide +kernel)
set_option maxRecDepth 20000 in
theorem wq_wsL_law_r3 : ∀ w ∈ wsL_law_r3, w ∈ lw_tbl := wq_fm [86, 87, 88, 75, 76, 77, 85, 78, 79, 110, 111, 112, 137, 115, 116, 117, 118, 119, 113, 120, 121, 141, 142, 143] (by decide +kernel)
set_option maxRecDepth 20000 in
theorem wq_wsL_law_r4 : ∀ w ∈ wsL_law_r4, w ∈ lw_tbl := wq_fm [146, 144, 147, 148, 149, 150, 166, 167, 168, 169, 170, 171, 665, 666, 667, 668, 669, 670, 672, 673, 674, 675, 677, 678] (by decide +kernel)
set_option maxRecDepth 20000 in
theorem wq_wsL_law_r5 : ∀ w ∈ wsL_law_r5, w ∈ lw_tbl := wq_fm [679, 680, 681, 682, 683, 684, 685, 201, 202, 203, 204, 205, 206, 207, 208, 210, 0, 211, 212, 213, 214, 215, 216, 217] (by decide +kernel)
set_option maxRecDepth 20000 in
theorem wq_wsL_law_r6 : ∀ w ∈ wsL_law_r6, w ∈ lw_tbl := wq_fm [218, 219, 220, 221, 222, 223, 224, 225, 226, 227, 228, 229, 230, 231, 232, 233, 235, 1, 236, 237, 238, 239, 240, 241] (by decide +kernel)
set_option maxRecDepth 20000 in
theorem wq_wsL_law_r7 : ∀ w ∈ wsL_law_r7, w ∈ lw_tbl := wq_fm [243, 2, 244, 245, 246, 247, 248, 249, 250, 251, 252, 253, 255, 254, 48, 256, 257, 258, 260, 261, 49, 262, 259, 263] (by decide +kernel)
set_option maxRecDepth 20000 in
theorem wq_wsL_law_r8 : ∀ w ∈ wsL_law_r8, w ∈ lw_tbl := wq_fm [265, 3, 266, 267, 269, 4, 270, 271, 272, 273, 274, 275, 276, 50, 277, 278, 279, 280, 282, 283, 284, 285, 51, 286] (by decide +kernel)
set_option maxRecDepth 20000 in
theorem wq_wsL_law_r9 : ∀ w ∈ wsL_law_r9, w ∈ lw_tbl := wq_fm [287, 288, 289, 290, 291, 293, 294, 296, 297, 298, 300, 5, 301, 302, 303, 304, 305, 306, 307, 724, 725, 726, 727, 728] (by decide +kernel)
set_option maxRecDepth 20000 in
theorem wq_wsL_law_r10 : ∀ w ∈ wsL_law_r10, w ∈ lw_tbl := wq_fm [732, 729, 730, 731, 733, 735, 15, 736, 737, 739, 16, 740, 741, 742, 743, 744, 745, 746, 747, 749, 17, 750, 751, 752] (by decide +kernel)
set_option maxRecDepth 20000 in
theorem wq_wsL_law_r11 : ∀ w ∈ wsL_law_r11, w ∈ lw_tbl := wq_fm [753, 754, 756, 18, 757, 758, 760, 19, 761, 762, 764, 20, 765, 308, 309, 310, 311, 312, 313, 314, 315, 316, 317, 319] (by decide +kernel)
set_option maxRecDepth 20000 in
theorem wq_wsL_law_r12 : ∀ w ∈ wsL_law_r12, w ∈ lw_tbl := wq_fm [320, 321, 322, 323, 324, 325, 326, 327, 328, 329, 330, 331, 332, 333, 334, 335, 337, 6, 338, 340, 341, 342, 343, 344] (by decide +kernel)
set_option maxRecDepth 20000 in
theorem wq_wsL_law_r13 : ∀ w ∈ wsL_law_r13, w ∈ lw_tbl := wq_fm [345, 346, 347, 349, 350, 766, 767, 768, 769, 774, 770, 771, 772, 773, 775, 776, 777, 778, 780, 21, 781, 782, 783, 784] (by decide +kernel)
set_option maxRecDepth 20000 in
theorem wq_wsL_law_r14 : ∀ w ∈ wsL_law_r14, w ∈ lw_tbl := wq_fm [785, 787, 22, 788, 351, 352, 353, 354, 355, 356, 357, 358, 359, 360, 361, 789, 790, 791, 792, 793, 362, 363, 364, 365] (by decide +kernel)
set_option maxRecDepth 20000 in
theorem wq_wsL_law_r15 : ∀ w ∈ wsL_law_r15, w ∈ lw_tbl := wq_fm [366, 367, 368, 369, 794, 795, 796, 797, 798, 800, 23, 801, 370, 371, 372, 373, 374, 375, 376, 377, 378, 379, 380, 381] (by decide +kernel)
set_option maxRecDepth 20000 in
theorem wq_wsL_law_r16 : ∀ w ∈ wsL_law_r16, w ∈ lw_tbl := wq_fm [382, 383, 384, 385, 386, 387, 388, 389, 390, 392, 7, 393, 394, 396, 397, 398, 399, 400, 401, 402, 403, 404, 405, 406] (by decide +kernel)
set_option maxRecDepth 20000 in
theorem wq_wsL_law_r17 : ∀ w ∈ wsL_law_r17, w ∈ lw_tbl := wq_fm [407, 409, 410, 411, 412, 413, 414, 415, 416, 417, 418, 419, 420, 421, 830, 831, 832, 833, 671, 834, 835, 836, 837, 839] (by decide +kernel)
set_option maxRecDepth 20000 in
theorem wq_wsL_law_r18 : ∀ w ∈ wsL_law_r18, w ∈ lw_tbl := wq_fm [28, 840, 815, 817, 25, 818, 819, 821, 26, 822, 823, 825, 27, 826, 827, 828, 829, 841, 843, 29, 844, 845, 847, 30] (by decide +kernel)
set_option maxRecDepth 20000 in
theorem wq_wsL_law_r19 : ∀ w ∈ wsL_law_r19, w ∈ lw_tbl := wq_fm [848, 422, 423, 424, 425, 426, 427, 428, 429, 430, 802, 803, 804, 805, 806, 808, 24, 809, 431, 432, 433, 434, 435, 436] (by decide +kernel)
set_option maxRecDepth 20000 in
theorem wq_wsL_law_r20 : ∀ w ∈ wsL_law_r20, w ∈ lw_tbl := wq_fm [437, 438, 439, 440, 810, 811, 812, 813, 814, 441, 442, 443, 444, 445, 446, 447, 448, 849, 850, 851, 852, 853, 854, 856] (by decide +kernel)
set_option maxRecDepth 20000 in
theorem wq_wsL_law_r21 : ∀ w ∈ wsL_law_r21, w ∈ lw_tbl := wq_fm [31, 857, 449, 450, 451, 452, 453, 455, 8, 456, 457, 458, 459, 460, 461, 463, 9, 464, 465, 466, 467, 468, 469, 470] (by decide +kernel)
set_option maxRecDepth 20000 in
theorem wq_wsL_law_r22 : ∀ w ∈ wsL_law_r22, w ∈ lw_tbl := wq_fm [858, 859, 860, 861, 862, 864, 32, 865, 866, 867, 868, 471, 472, 473, 474, 475, 476, 477, 478, 869, 870, 871, 872, 479] (by decide +kernel)
set_option maxRecDepth 20000 in
theorem wq_wsL_law_r23 : ∀ w ∈ wsL_law_r23, w ∈ lw_tbl := wq_fm [480, 481, 482, 483, 484, 485, 486, 487, 488, 489, 490, 491, 873, 874, 875, 876, 492, 493, 494, 495, 496, 877, 878, 879] (by decide +kernel)
set_option maxRecDepth 20000 in
theorem wq_wsL_law_r24 : ∀ w ∈ wsL_law_r24, w ∈ lw_tbl := wq_fm [880, 497, 498, 499, 500, 501, 502, 503, 504, 881, 882, 883, 884, 885, 886, 676, 505, 506, 507, 508, 509, 510, 511, 512] (by decide +kernel)
set_option maxRecDepth 20000 in
theorem wq_wsL_law_r25 : ∀ w ∈ wsL_law_r25, w ∈ lw_tbl := wq_fm [513, 514, 516, 10, 517, 518, 520, 11, 521, 522, 524, 12, 525, 526, 528, 529, 530, 531, 532, 533, 534, 535, 536, 887] (by decide +kernel)
set_option maxRecDepth 20000 in
theorem wq_wsL_law_r26 : ∀ w ∈ wsL_law_r26, w ∈ lw_tbl := wq_fm [888, 889, 890, 686, 891, 893, 33, 894, 895, 897, 34, 898, 903, 904, 899, 901, 35, 902, 537, 538, 539, 540, 541, 543] (by decide +kernel)
set_option maxRecDepth 20000 in
theorem wq_wsL_law_r27 : ∀ w ∈ wsL_law_r27, w ∈ lw_tbl := wq_fm [13, 544, 545, 546, 547, 548, 549, 550, 905, 906, 907, 908, 909, 910, 912, 36, 913, 914, 915, 916, 917, 551, 552, 553] (by decide +kernel)
set_option maxRecDepth 20000 in
theorem wq_wsL_law_r28 : ∀ w ∈ wsL_law_r28, w ∈ lw_tbl := wq_fm [554, 555, 556, 557, 558, 918, 919, 920, 921, 559, 560, 561, 562, 563, 564, 565, 566, 567, 568, 569, 570, 922, 923, 924] (by decide +kernel)
set_option maxRecDepth 20000 in
theorem wq_wsL_law_r29 : ∀ w ∈ wsL_law_r29, w ∈ lw_tbl := wq_fm [925, 571, 572, 573, 574, 575, 576, 577, 578, 926, 927, 928, 929, 579, 580, 581, 582, 930, 931, 932, 933, 583, 584, 585] (by decide +kernel)
set_option maxRecDepth 20000 in
theorem wq_wsL_law_r30 : ∀ w ∈ wsL_law_r30, w ∈ lw_tbl := wq_fm [586, 587, 588, 589, 590, 591, 592, 593, 594, 595, 596, 597, 598, 599, 600, 601, 602, 603, 604, 605, 606, 607, 608, 609] (by decide +kernel)
set_option maxRecDepth 20000 in
theorem wq_wsL_law_r31 : ∀ w ∈ wsL_law_r31, w ∈ lw_tbl := wq_fm [610, 611, 612, 613, 614, 934, 935, 936, 937, 941, 938, 939, 940, 942, 944, 37, 945, 946, 948, 38, 949, 615, 616, 617] (by decide +kernel)
set_option maxRecDepth 20000 in
theorem wq_wsL_law_r32 : ∀ w ∈ wsL_law_r32, w ∈ lw_tbl := wq_fm [618, 619, 620, 621, 622, 623, 625, 14, 626, 950, 951, 952, 953, 954, 955, 956, 627, 628, 629, 630, 631, 632, 633, 634] (by decide +kernel)
set_option maxRecDepth 20000 in
theorem wq_wsL_law_r33 : ∀ w ∈ wsL_law_r33, w ∈ lw_tbl := wq_fm [635, 957, 958, 959, 960, 636, 637, 638, 639, 640, 641, 642, 643, 644, 961, 962, 963, 964, 645, 646, 647, 648, 965, 966] (by decide +kernel)
set_option maxRecDepth 20000 in
theorem wq_wsL_law_r34 : ∀ w ∈ wsL_law_r34, w ∈ lw_tbl := wq_fm [967, 968, 649, 650, 651, 652, 653, 654, 655, 656, 657, 658, 659, 660, 661, 662, 969, 970, 971, 972] (by decide +kernel)
set_option maxRecDepth 20000 in
theorem wq_wsX60 : ∀ w ∈ wsX60, w ∈ lw_tbl := wq_fm [186, 188, 190, 192, 194, 196, 198] (by decide +kernel)
set_option maxRecDepth 20000 in
theorem wq_wsX70 : ∀ w ∈ wsX70, w ∈ lw_tbl := wq_fm [687, 689, 691, 693, 695, 697, 699, 701, 703, 705, 707, 709, 711, 713, 715, 717, 719, 721] (by decide +kernel)
set_option maxRecDepth 20000 in
theorem wq_wsX00 : ∀ w ∈ wsX00, w ∈ lw_tbl := wq_fm [100, 102, 104] (by decide +kernel)
set_option maxRecDepth 20000 in
theorem wq_wsX50 : ∀ w ∈ wsX50, w ∈ lw_tbl := wq_fm [122, 124, 126, 128, 130, 132, 134] (by decide +kernel)
set_option maxRecDepth 20000 in
theorem wq_wsX40 : ∀ w ∈ wsX40, w ∈ lw_tbl := wq_fm [151, 153, 155, 157, 159] (by decide +kernel)
set_option maxRecDepth 20000 in
theorem wq_wsX20 : ∀ w ∈ wsX20, w ∈ lw_tbl := wq_fm [172, 174, 176] (by decide +kernel)
set_option maxRecDepth 20000 in
theorem wq_wsX10 : ∀ w ∈ wsX10, w ∈ lw_tbl := wq_fm [89, 91, 93] (by decide +kernel)
set_option maxRecDepth 20000 in
theorem wq_wsX30 : ∀ w ∈ wsX30, w ∈ lw_tbl := wq_fm [80, 82] (by decide +kernel)
theorem wsL_law_in : ∀ w ∈ wsL_law, w ∈ lw_tbl := by
  unfold wsL_law
  exact List.forall_mem_append.mpr ⟨List.forall_mem_append.mpr ⟨List.forall_mem_append.mpr ⟨List.forall_mem_append.mpr ⟨List.forall_mem_append.mpr ⟨List.forall_mem_append.mpr ⟨List.forall_mem_append.mpr ⟨List.forall_mem_append.mpr ⟨List.forall_mem_append.mpr ⟨List.forall_mem_append.mpr ⟨wq_wsL_law_r1, List.forall_mem_append.mpr ⟨wq_wsL_law_r2, List.forall_mem_append.mpr ⟨wq_wsL_law_r3, List.forall_mem_append.mpr ⟨wq_wsL_law_r4, List.forall_mem_append.mpr ⟨wq_wsL_law_r5, List.forall_mem_append.mpr ⟨wq_wsL_law_r6, List.forall_mem_append.mpr ⟨wq_wsL_law_r7, List.forall_mem_append.mpr ⟨wq_wsL_law_r8, List.forall_mem_append.mpr ⟨wq_wsL_law_r9, List.forall_mem_append.mpr ⟨wq_wsL_law_r10, List.forall_mem_append.mpr ⟨wq_wsL_law_r11, List.forall_mem_append.mpr ⟨wq_wsL_law_r12, List.forall_mem_append.mpr ⟨wq_wsL_law_r13, List.forall_mem_append.mpr ⟨wq_wsL_law_r14, List.forall_mem_append.mpr ⟨wq_wsL_law_r15, List.forall_mem_append.mpr ⟨wq_wsL_law_r16, List.forall_mem_append.mpr ⟨wq_wsL_law_r17, List.forall_mem_append.mpr ⟨wq_wsL_law_r18, List.forall_mem_append.mpr ⟨wq_wsL_law_r19, List.forall_mem_append.mpr ⟨wq_wsL_law_r20, List.forall_mem_append.mpr ⟨wq_wsL_law_r21, List.forall_mem_append.mpr ⟨wq_wsL_law_r22, List.forall_mem_append.mpr ⟨wq_wsL_law_r23, List.forall_mem_append.mpr ⟨wq_wsL_law_r24, List.forall_mem_append.mpr ⟨wq_wsL_law_r25, List.forall_mem_append.mpr ⟨wq_wsL_law_r26, List.forall_mem_append.mpr ⟨wq_wsL_law_r27, List.forall_mem_append.mpr ⟨wq_wsL_law_r28, List.forall_mem_append.mpr ⟨wq_wsL_law_r29, List.forall_mem_append.mpr ⟨wq_wsL_law_r30, List.forall_mem_append.mpr ⟨wq_wsL_law_r31, List.forall_mem_append.mpr ⟨wq_wsL_law_r32, List.forall_mem_append.mpr ⟨wq_wsL_law_r33, wq_wsL_law_r34⟩⟩⟩⟩⟩⟩⟩⟩⟩⟩⟩⟩⟩⟩⟩⟩⟩⟩⟩⟩⟩⟩⟩⟩⟩⟩⟩⟩⟩⟩⟩⟩⟩, wq_wsX60⟩, wq_wsX70⟩, wq_wsX00⟩, wq_wsX50⟩, wq_wsX40⟩, wq_wsX20⟩, wq_wsX10⟩, wq_wsX30⟩, (fun _ h => absurd h List.not_mem_nil)⟩
theorem inlX0 : ∀ w ∈ wsX00, w ∈ wsL_law := fun _ h => List.mem_append_left _ (List.mem_append_left _ (List.mem_append_left _ (List.mem_append_left _ (List.mem_append_left _ (List.mem_append_left _ (List.mem_append_right _ h))))))
theorem inX0 : ∀ w ∈ wsX00, w ∈ lw_tbl := fun w h => wsL_law_in w (inlX0 w h)
theorem inlX1 : ∀ w ∈ wsX10, w ∈ wsL_law := fun _ h => List.mem_append_left _ (List.mem_append_left _ (List.mem_append_right _ h))
theorem inX1 : ∀ w ∈ wsX10, w ∈ lw_tbl := fun w h => wsL_law_in w (inlX1 w h)
theorem inlX2 : ∀ w ∈ wsX20, w ∈ wsL_law := fun _ h => List.mem_append_left _ (List.mem_append_left _ (List.mem_append_left _ (List.mem_append_right _ h)))
theorem inX2 : ∀ w ∈ wsX20, w ∈ lw_tbl := fun w h => wsL_law_in w (inlX2 w h)
theorem inlX3 : ∀ w ∈ wsX30, w ∈ wsL_law := fun _ h => List.mem_append_left _ (List.mem_append_right _ h)
theorem inX3 : ∀ w ∈ wsX30, w ∈ lw_tbl := fun w h => wsL_law_in w (inlX3 w h)
theorem inlX4 : ∀ w ∈ wsX40, w ∈ wsL_law := fun _ h => List.mem_append_left _ (List.mem_append_left _ (List.mem_append_left _ (List.mem_append_left _ (List.mem_append_right _ h))))
theorem inX4 : ∀ w ∈ wsX40, w ∈ lw_tbl := fun w h => wsL_law_in w (inlX4 w h)
theorem inlX5 : ∀ w ∈ wsX50, w ∈ wsL_law := fun _ h => List.mem_append_left _ (List.mem_append_left _ (List.mem_append_left _ (List.mem_append_left _ (List.mem_append_left _ (List.mem_append_right _ h)))))
theorem inX5 : ∀ w ∈ wsX50, w ∈ lw_tbl := fun w h => wsL_law_in w (inlX5 w h)
theorem inlX6 : ∀ w ∈ wsX60, w ∈ wsL_law := fun _ h => List.mem_append_left _ (List.mem_append_left _ (List.mem_append_left _ (List.mem_append_left _ (List.mem_append_left _ (List.mem_append_left _ (List.mem_append_left _ (List.mem_append_left _ (List.mem_append_right _ h))))))))
theorem inX6 : ∀ w ∈ wsX60, w ∈ lw_tbl := fun w h => wsL_law_in w (inlX6 w h)
theorem inlX7 : ∀ w ∈ wsX70, w ∈ wsL_law := fun _ h => List.mem_append_left _ (List.mem_append_left _ (List.mem_append_left _ (List.mem_append_left _ (List.mem_append_left _ (List.mem_append_left _ (List.mem_append_left _ (List.mem_append_right _ h)))))))
theorem inX7 : ∀ w ∈ wsX70, w ∈ lw_tbl := fun w h => wsL_law_in w (inlX7 w h)
theorem inJ6 : ∀ w ∈ wsJ60, w ∈ lw_tbl := by decide +kernel
theorem inJ9 : ∀ w ∈ wsJ90, w ∈ lw_tbl := by decide +kernel
theorem inJ10 : ∀ w ∈ wsJ100, w ∈ lw_tbl := by decide +kernel
theorem inJ7 : ∀ w ∈ wsJ70, w ∈ lw_tbl := by decide +kernel
