theorem mem_by_places {big ws : List Cond} (ps : List Nat) (hp : ws = ps.filterMap (fun i => big[i]?)) : ∀ w ∈ ws, w ∈ big := by
  intro w hw
  rw [hp] at hw
  obtain ⟨i, -, hi⟩ := List.mem_filterMap.mp hw
  exact List.mem_of_getElem? hi
set_option maxRecDepth 20000 in
theorem wsL_in_r1 : ∀ w ∈ wsL_law_r1, w ∈ lw_tbl := mem_by_places [58, 59, 45, 551, 552, 52, 60, 61, 62, 63, 64, 65, 66, 67, 46, 222, 104, 105, 47, 223, 124, 125, 48, 224] (by decide +kernel)
set_option maxRecDepth 20000 in
theorem wsL_in_r2 : ∀ w ∈ wsL_law_r2, w ∈ lw_tbl := mem_by_places [172, 173, 49, 225, 191, 192, 50, 226, 202, 227, 204, 51, 171, 228, 68, 69, 70, 71, 72, 103, 81, 84, 87, 106] (by decide +kernel)
set_option maxRecDepth 20000 in
theorem wsL_in_r3 : ∀ w ∈ wsL_law_r3, w ∈ lw_tbl := mem_by_places [107, 108, 109, 110, 113, 112, 126, 127, 128, 129, 130, 132, 135, 137, 170, 139, 143, 145, 147, 174, 175, 176, 177, 178] (by decide +kernel)
set_option maxRecDepth 20000 in
theorem wsL_in_r4 : ∀ w ∈ wsL_law_r4, w ∈ lw_tbl := mem_by_places [180, 194, 195, 196, 205, 206, 207, 208, 209, 213, 210, 553, 554, 555, 556, 557, 561, 562, 563, 565, 566, 567, 569, 570] (by decide +kernel)
set_option maxRecDepth 20000 in
theorem wsL_in_r5 : ∀ w ∈ wsL_law_r5, w ∈ lw_tbl := mem_by_places [571, 572, 573, 244, 245, 246, 247, 73, 82, 85, 76, 79, 133, 141, 183, 115, 198, 362, 248, 249, 250, 251, 252, 254] (by decide +kernel)
set_option maxRecDepth 20000 in
theorem wsL_in_r6 : ∀ w ∈ wsL_law_r6, w ∈ lw_tbl := mem_by_places [0, 255, 134, 256, 257, 53, 258, 259, 261, 1, 262, 74, 83, 264, 265, 266, 268, 2, 269, 142, 270, 272, 3, 273] (by decide +kernel)
set_option maxRecDepth 20000 in
theorem wsL_in_r7 : ∀ w ∈ wsL_law_r7, w ∈ lw_tbl := mem_by_places [80, 86, 274, 275, 276, 277, 278, 280, 4, 281, 282, 283, 284, 285, 286, 54, 287, 288, 289, 290, 291, 292, 293, 294] (by decide +kernel)
set_option maxRecDepth 20000 in
theorem wsL_in_r8 : ∀ w ∈ wsL_law_r8, w ∈ lw_tbl := mem_by_places [295, 296, 297, 298, 89, 299, 300, 301, 302, 303, 304, 306, 5, 307, 179, 131, 181, 308, 309, 310, 311, 312, 77, 313] (by decide +kernel)
set_option maxRecDepth 20000 in
theorem wsL_in_r9 : ∀ w ∈ wsL_law_r9, w ∈ lw_tbl := mem_by_places [314, 55, 315, 317, 316, 320, 321, 322, 323, 324, 325, 326, 327, 328, 332, 339, 329, 330, 331, 333, 334, 335, 336, 337] (by decide +kernel)
set_option maxRecDepth 20000 in
theorem wsL_in_r10 : ∀ w ∈ wsL_law_r10, w ∈ lw_tbl := mem_by_places [338, 341, 342, 343, 344, 345, 346, 347, 348, 349, 350, 352, 6, 353, 148, 354, 355, 356, 357, 358, 359, 360, 361, 609] (by decide +kernel)
set_option maxRecDepth 20000 in
theorem wsL_in_r11 : ∀ w ∈ wsL_law_r11, w ∈ lw_tbl := mem_by_places [610, 611, 612, 564, 558, 560, 739, 613, 615, 8, 616, 617, 618, 619, 620, 621, 622, 623, 625, 9, 626, 627, 629, 10] (by decide +kernel)
set_option maxRecDepth 20000 in
theorem wsL_in_r12 : ∀ w ∈ wsL_law_r12, w ∈ lw_tbl := mem_by_places [630, 631, 633, 11, 634, 635, 637, 12, 638, 639, 641, 13, 642, 643, 645, 14, 646, 647, 649, 15, 650, 568, 651, 653] (by decide +kernel)
set_option maxRecDepth 20000 in
theorem wsL_in_r13 : ∀ w ∈ wsL_law_r13, w ∈ lw_tbl := mem_by_places [16, 654, 655, 657, 17, 658, 659, 661, 18, 662, 663, 665, 19, 666, 667, 669, 20, 670, 671, 673, 21, 674, 675, 677] (by decide +kernel)
set_option maxRecDepth 20000 in
theorem wsL_in_r14 : ∀ w ∈ wsL_law_r14, w ∈ lw_tbl := mem_by_places [22, 678, 679, 681, 23, 682, 683, 685, 24, 686, 687, 688, 689, 690, 692, 25, 693, 694, 696, 26, 697, 698, 700, 27] (by decide +kernel)
set_option maxRecDepth 20000 in
theorem wsL_in_r15 : ∀ w ∈ wsL_law_r15, w ∈ lw_tbl := mem_by_places [701, 702, 703, 705, 28, 706, 707, 709, 29, 710, 711, 712, 713, 714, 715, 717, 30, 718, 719, 720, 721, 723, 31, 724] (by decide +kernel)
set_option maxRecDepth 20000 in
theorem wsL_in_r16 : ∀ w ∈ wsL_law_r16, w ∈ lw_tbl := mem_by_places [725, 727, 32, 728, 733, 734, 729, 731, 33, 732, 735, 737, 34, 738, 363, 364, 365, 366, 367, 88, 144, 146, 368, 740] (by decide +kernel)
set_option maxRecDepth 20000 in
theorem wsL_in_r17 : ∀ w ∈ wsL_law_r17, w ∈ lw_tbl := mem_by_places [741, 742, 743, 744, 745, 747, 35, 748, 369, 370, 371, 372, 373, 374, 375, 376, 377, 379, 380, 381, 382, 749, 750, 751] (by decide +kernel)
set_option maxRecDepth 20000 in
theorem wsL_in_r18 : ∀ w ∈ wsL_law_r18, w ∈ lw_tbl := mem_by_places [752, 753, 755, 36, 756, 383, 384, 385, 386, 387, 388, 389, 390, 391, 757, 758, 759, 760, 392, 393, 394, 395, 396, 397] (by decide +kernel)
set_option maxRecDepth 20000 in
theorem wsL_in_r19 : ∀ w ∈ wsL_law_r19, w ∈ lw_tbl := mem_by_places [761, 762, 763, 764, 765, 766, 767, 398, 399, 400, 401, 768, 769, 770, 771, 772, 774, 37, 775, 402, 403, 404, 405, 406] (by decide +kernel)
set_option maxRecDepth 20000 in
theorem wsL_in_r20 : ∀ w ∈ wsL_law_r20, w ∈ lw_tbl := mem_by_places [776, 777, 778, 779, 780, 407, 408, 409, 410, 136, 138, 140, 781, 782, 783, 784, 411, 412, 413, 414, 785, 786, 787, 788] (by decide +kernel)
set_option maxRecDepth 20000 in
theorem wsL_in_r21 : ∀ w ∈ wsL_law_r21, w ∈ lw_tbl := mem_by_places [415, 416, 417, 418, 419, 420, 421, 422, 423, 424, 425, 427, 7, 428, 429, 430, 431, 789, 790, 791, 792, 793, 795, 38] (by decide +kernel)
set_option maxRecDepth 20000 in
theorem wsL_in_r22 : ∀ w ∈ wsL_law_r22, w ∈ lw_tbl := mem_by_places [796, 797, 798, 799, 432, 433, 434, 435, 440, 441, 436, 437, 438, 439, 442, 443, 444, 445, 116, 114, 453, 454, 57, 455] (by decide +kernel)
set_option maxRecDepth 20000 in
theorem wsL_in_r23 : ∀ w ∈ wsL_law_r23, w ∈ lw_tbl := mem_by_places [446, 447, 448, 449, 75, 78, 450, 452, 451, 56, 456, 457, 458, 459, 800, 801, 802, 803, 804, 805, 806, 808, 39, 809] (by decide +kernel)
set_option maxRecDepth 20000 in
theorem wsL_in_r24 : ∀ w ∈ wsL_law_r24, w ∈ lw_tbl := mem_by_places [810, 812, 40, 813, 814, 816, 41, 817, 460, 461, 462, 463, 464, 465, 466, 467, 468, 469, 818, 819, 820, 821, 822, 470] (by decide +kernel)
set_option maxRecDepth 20000 in
theorem wsL_in_r25 : ∀ w ∈ wsL_law_r25, w ∈ lw_tbl := mem_by_places [471, 472, 473, 474, 475, 476, 477, 823, 824, 825, 826, 478, 479, 480, 481, 482, 483, 484, 485, 827, 828, 829, 830, 486] (by decide +kernel)
set_option maxRecDepth 20000 in
theorem wsL_in_r26 : ∀ w ∈ wsL_law_r26, w ∈ lw_tbl := mem_by_places [487, 488, 489, 831, 832, 833, 834, 835, 837, 42, 838, 490, 491, 492, 493, 839, 840, 841, 842, 494, 495, 496, 497, 843] (by decide +kernel)
set_option maxRecDepth 20000 in
theorem wsL_in_r27 : ∀ w ∈ wsL_law_r27, w ∈ lw_tbl := mem_by_places [844, 845, 846, 498, 499, 500, 501, 502, 503, 504, 505, 197, 506, 507, 508, 509, 510, 511, 512, 513, 847, 848, 849, 850] (by decide +kernel)
set_option maxRecDepth 20000 in
theorem wsL_in_r28 : ∀ w ∈ wsL_law_r28, w ∈ lw_tbl := mem_by_places [851, 853, 43, 854, 855, 856, 857, 858, 514, 515, 516, 517, 518, 519, 520, 521, 859, 860, 861, 862, 522, 523, 524, 525] (by decide +kernel)
set_option maxRecDepth 20000 in
theorem wsL_in_r29 : ∀ w ∈ wsL_law_r29, w ∈ lw_tbl := mem_by_places [526, 527, 528, 529, 182, 863, 864, 865, 866, 530, 531, 532, 533, 867, 868, 869, 870, 534, 535, 536, 537, 871, 872, 873] (by decide +kernel)
set_option maxRecDepth 20000 in
theorem wsL_in_r30 : ∀ w ∈ wsL_law_r30, w ∈ lw_tbl := mem_by_places [874, 538, 539, 540, 541, 211, 212, 214, 542, 543, 544, 545, 546, 875, 876, 877, 878, 559, 547, 548, 549, 550, 879, 880] (by decide +kernel)
set_option maxRecDepth 20000 in
theorem wsL_in_r31 : ∀ w ∈ wsL_law_r31, w ∈ lw_tbl := mem_by_places [881, 882] (by decide +kernel)
set_option maxRecDepth 20000 in
theorem wsL_in_wsX70 : ∀ w ∈ wsX70, w ∈ lw_tbl := mem_by_places [229, 231, 233, 235, 237, 239, 241] (by decide +kernel)
set_option maxRecDepth 20000 in
theorem wsL_in_wsX80 : ∀ w ∈ wsX80, w ∈ lw_tbl := mem_by_places [574, 576, 578, 580, 582, 584, 586, 588, 590, 592, 594, 596, 598, 600, 602, 604, 606] (by decide +kernel)
set_option maxRecDepth 20000 in
theorem wsL_in_wsX30 : ∀ w ∈ wsX30, w ∈ lw_tbl := mem_by_places [90, 92, 94, 96, 98, 100] (by decide +kernel)
set_option maxRecDepth 20000 in
theorem wsL_in_wsX40 : ∀ w ∈ wsX40, w ∈ lw_tbl := mem_by_places [117, 119, 121] (by decide +kernel)
set_option maxRecDepth 20000 in
theorem wsL_in_wsX60 : ∀ w ∈ wsX60, w ∈ lw_tbl := mem_by_places [149, 151, 153, 155, 157, 159, 161, 163, 165, 167] (by decide +kernel)
set_option maxRecDepth 20000 in
theorem wsL_in_wsX00 : ∀ w ∈ wsX00, w ∈ lw_tbl := mem_by_places [184, 186, 188] (by decide +kernel)
set_option maxRecDepth 20000 in
theorem wsL_in_wsX10 : ∀ w ∈ wsX10, w ∈ lw_tbl := mem_by_places [199] (by decide +kernel)
set_option maxRecDepth 20000 in
theorem wsL_in_wsX20 : ∀ w ∈ wsX20, w ∈ lw_tbl := mem_by_places [215, 217, 219] (by decide +kernel)
theorem wsL_law_in : ∀ w ∈ wsL_law, w ∈ lw_tbl := (List.forall_mem_append.mpr ⟨(List.forall_mem_append.mpr ⟨(List.forall_mem_append.mpr ⟨(List.forall_mem_append.mpr ⟨(List.forall_mem_append.mpr ⟨(List.forall_mem_append.mpr ⟨(List.forall_mem_append.mpr ⟨(List.forall_mem_append.mpr ⟨(List.forall_mem_append.mpr ⟨(List.forall_mem_append.mpr ⟨wsL_in_r1, (List.forall_mem_append.mpr ⟨wsL_in_r2, (List.forall_mem_append.mpr ⟨wsL_in_r3, (List.forall_mem_append.mpr ⟨wsL_in_r4, (List.forall_mem_append.mpr ⟨wsL_in_r5, (List.forall_mem_append.mpr ⟨wsL_in_r6, (List.forall_mem_append.mpr ⟨wsL_in_r7, (List.forall_mem_append.mpr ⟨wsL_in_r8, (List.forall_mem_append.mpr ⟨wsL_in_r9, (List.forall_mem_append.mpr ⟨wsL_in_r10, (List.forall_mem_append.mpr ⟨wsL_in_r11, (List.forall_mem_append.mpr ⟨wsL_in_r12, (List.forall_mem_append.mpr ⟨wsL_in_r13, (List.forall_mem_append.mpr ⟨wsL_in_r14, (List.forall_mem_append.mpr ⟨wsL_in_r15, (List.forall_mem_append.mpr ⟨wsL_in_r16, (List.forall_mem_append.mpr ⟨wsL_in_r17, (List.forall_mem_append.mpr ⟨wsL_in_r18, (List.forall_mem_append.mpr ⟨wsL_in_r19, (List.forall_mem_append.mpr ⟨wsL_in_r20, (List.forall_mem_append.mpr ⟨wsL_in_r21, (List.forall_mem_append.mpr ⟨wsL_in_r22, (List.forall_mem_append.mpr ⟨wsL_in_r23, (List.forall_mem_append.mpr ⟨wsL_in_r24, (List.forall_mem_append.mpr ⟨wsL_in_r25, (List.forall_mem_append.mpr ⟨wsL_in_r26, (List.forall_mem_append.mpr ⟨wsL_in_r27, (List.forall_mem_append.mpr ⟨wsL_in_r28, (List.forall_mem_append.mpr ⟨wsL_in_r29, (List.forall_mem_append.mpr ⟨wsL_in_r30, wsL_in_r31⟩)⟩)⟩)⟩)⟩)⟩)⟩)⟩)⟩)⟩)⟩)⟩)⟩)⟩)⟩)⟩)⟩)⟩)⟩)⟩)⟩)⟩)⟩)⟩)⟩)⟩)⟩)⟩)⟩)⟩), wsL_in_wsX70⟩), wsL_in_wsX80⟩), wsL_in_wsX30⟩), wsL_in_wsX40⟩), wsL_in_wsX60⟩), wsL_in_wsX00⟩), wsL_in_wsX10⟩), wsL_in_wsX20⟩), fun _ h => absurd h List.not_mem_nil⟩)
