/-! the law's words among the tables', by their places -/
theorem mem_pl {big ws : List Cond} (ps : List Nat) (h : ps.map (fun i => big[i]?) = ws.map some) : ∀ w ∈ ws, w ∈ big := by
  intro w hw
  have h1 : some w ∈ ws.map some := List.mem_map.mpr ⟨w, hw, rfl⟩
  rw [← h] at h1
  obtain ⟨i, -, hi⟩ := List.mem_map.mp h1
  exact List.mem_of_getElem? hi
set_option maxRecDepth 100000 in
theorem wsL_law_r1_in : ∀ w ∈ wsL_law_r1, w ∈ lw_tbl := mem_pl [62, 63, 49, 590, 591, 57, 64, 65, 66, 67, 68, 69, 70, 71, 50, 213, 88, 89, 51, 214, 215, 101, 102, 52] rfl
set_option maxRecDepth 100000 in
theorem wsL_law_r2_in : ∀ w ∈ wsL_law_r2, w ∈ lw_tbl := mem_pl [216, 114, 115, 53, 217, 158, 159, 55, 218, 191, 192, 56, 219, 220, 221, 222, 72, 73, 74, 75, 86, 76, 87, 77] rfl
set_option maxRecDepth 100000 in
theorem wsL_law_r3_in : ∀ w ∈ wsL_law_r3, w ∈ lw_tbl := mem_pl [90, 91, 92, 93, 94, 103, 104, 105, 106, 108, 116, 117, 118, 119, 142, 143, 120, 121, 54, 144, 122, 123, 124, 125] rfl
set_option maxRecDepth 100000 in
theorem wsL_law_r4_in : ∀ w ∈ wsL_law_r4, w ∈ lw_tbl := mem_pl [126, 127, 160, 161, 162, 163, 166, 164, 167, 168, 169, 170, 165, 193, 194, 195, 196, 197, 198, 592, 593, 594, 595, 596] rfl
set_option maxRecDepth 100000 in
theorem wsL_law_r5_in : ∀ w ∈ wsL_law_r5, w ∈ lw_tbl := mem_pl [597, 599, 600, 601, 602, 603, 604, 605, 611, 615, 616, 617, 620, 244, 245, 246, 247, 248, 250, 0, 251, 252, 253, 254] rfl
set_option maxRecDepth 100000 in
theorem wsL_law_r6_in : ∀ w ∈ wsL_law_r6, w ∈ lw_tbl := mem_pl [255, 78, 256, 258, 257, 58, 682, 683, 684, 685, 686, 687, 688, 689, 691, 16, 692, 693, 695, 17, 696, 598, 259, 260] rfl
set_option maxRecDepth 100000 in
theorem wsL_law_r7_in : ∀ w ∈ wsL_law_r7, w ∈ lw_tbl := mem_pl [261, 262, 263, 265, 1, 266, 267, 269, 2, 270, 271, 272, 59, 273, 274, 275, 276, 277, 278, 60, 279, 280, 281, 282] rfl
set_option maxRecDepth 100000 in
theorem wsL_law_r8_in : ∀ w ∈ wsL_law_r8, w ∈ lw_tbl := mem_pl [697, 698, 699, 700, 701, 703, 18, 704, 705, 707, 19, 708, 709, 710, 711, 712, 713, 714, 283, 284, 285, 286, 298, 287] rfl
set_option maxRecDepth 100000 in
theorem wsL_law_r9_in : ∀ w ∈ wsL_law_r9, w ∈ lw_tbl := mem_pl [289, 3, 290, 291, 292, 293, 294, 295, 296, 297, 715, 716, 717, 718, 723, 719, 721, 20, 722, 299, 300, 301, 302, 303] rfl
set_option maxRecDepth 100000 in
theorem wsL_law_r10_in : ∀ w ∈ wsL_law_r10, w ∈ lw_tbl := mem_pl [304, 61, 305, 306, 307, 308, 309, 310, 311, 724, 725, 726, 727, 728, 729, 730, 731, 733, 21, 734, 312, 313, 314, 315] rfl
set_option maxRecDepth 100000 in
theorem wsL_law_r11_in : ∀ w ∈ wsL_law_r11, w ∈ lw_tbl := mem_pl [735, 736, 737, 738, 316, 317, 318, 319, 320, 321, 322, 323, 324, 325, 326, 327, 328, 329, 330, 331, 678, 679, 680, 681] rfl
set_option maxRecDepth 100000 in
theorem wsL_law_r12_in : ∀ w ∈ wsL_law_r12, w ∈ lw_tbl := mem_pl [332, 333, 334, 335, 336, 338, 4, 339, 340, 341, 342, 343, 345, 347, 5, 348, 349, 350, 351, 352, 353, 354, 355, 356] rfl
set_option maxRecDepth 100000 in
theorem wsL_law_r13_in : ∀ w ∈ wsL_law_r13, w ∈ lw_tbl := mem_pl [357, 358, 172, 173, 171, 359, 360, 361, 362, 145, 146, 363, 364, 366, 6, 367, 368, 370, 7, 371, 372, 373, 374, 375] rfl
set_option maxRecDepth 100000 in
theorem wsL_law_r14_in : ∀ w ∈ wsL_law_r14, w ∈ lw_tbl := mem_pl [376, 128, 129, 130, 377, 378, 379, 380, 381, 382, 383, 384, 385, 386, 388, 8, 389, 390, 392, 9, 393, 394, 395, 396] rfl
set_option maxRecDepth 100000 in
theorem wsL_law_r15_in : ∀ w ∈ wsL_law_r15, w ∈ lw_tbl := mem_pl [397, 398, 399, 400, 401, 402, 403, 404, 405, 406, 408, 10, 409, 410, 411, 412, 413, 414, 415, 416, 417, 418, 419, 420] rfl
set_option maxRecDepth 100000 in
theorem wsL_law_r16_in : ∀ w ∈ wsL_law_r16, w ∈ lw_tbl := mem_pl [421, 423, 11, 424, 425, 426, 427, 428, 429, 430, 431, 432, 433, 434, 435, 436, 199, 200, 201, 437, 438, 439, 440, 442] rfl
set_option maxRecDepth 100000 in
theorem wsL_law_r17_in : ∀ w ∈ wsL_law_r17, w ∈ lw_tbl := mem_pl [12, 443, 444, 445, 447, 13, 448, 449, 450, 451, 452, 453, 454, 455, 456, 457, 850, 851, 852, 853, 747, 749, 22, 750] rfl
set_option maxRecDepth 100000 in
theorem wsL_law_r18_in : ∀ w ∈ wsL_law_r18, w ∈ lw_tbl := mem_pl [854, 856, 40, 857, 755, 757, 23, 758, 858, 860, 41, 861, 822, 824, 34, 825, 613, 612, 614, 763, 765, 24, 766, 767] rfl
set_option maxRecDepth 100000 in
theorem wsL_law_r19_in : ∀ w ∈ wsL_law_r19, w ∈ lw_tbl := mem_pl [769, 25, 770, 771, 773, 26, 774, 775, 777, 27, 778, 779, 781, 28, 782, 826, 828, 35, 829, 606, 607, 608, 609, 610] rfl
set_option maxRecDepth 100000 in
theorem wsL_law_r20_in : ∀ w ∈ wsL_law_r20, w ∈ lw_tbl := mem_pl [795, 797, 29, 798, 799, 801, 30, 802, 803, 805, 31, 806, 807, 809, 32, 810, 811, 812, 813, 814, 816, 33, 817, 838] rfl
set_option maxRecDepth 100000 in
theorem wsL_law_r21_in : ∀ w ∈ wsL_law_r21, w ∈ lw_tbl := mem_pl [840, 37, 841, 842, 844, 38, 845, 846, 848, 39, 849, 862, 864, 42, 865, 458, 459, 460, 461, 739, 740, 741, 742, 462] rfl
set_option maxRecDepth 100000 in
theorem wsL_law_r22_in : ∀ w ∈ wsL_law_r22, w ∈ lw_tbl := mem_pl [463, 464, 465, 466, 743, 744, 745, 746, 467, 468, 469, 470, 751, 752, 753, 754, 471, 472, 473, 474, 475, 476, 759, 760] rfl
set_option maxRecDepth 100000 in
theorem wsL_law_r23_in : ∀ w ∈ wsL_law_r23, w ∈ lw_tbl := mem_pl [761, 762, 477, 478, 479, 480, 783, 784, 785, 786, 481, 482, 483, 484, 787, 788, 789, 790, 485, 486, 487, 488, 489, 791] rfl
set_option maxRecDepth 100000 in
theorem wsL_law_r24_in : ∀ w ∈ wsL_law_r24, w ∈ lw_tbl := mem_pl [792, 793, 794, 490, 491, 492, 493, 494, 495, 496, 497, 818, 819, 820, 821, 498, 499, 500, 501, 502, 504, 14, 505, 506] rfl
set_option maxRecDepth 100000 in
theorem wsL_law_r25_in : ∀ w ∈ wsL_law_r25, w ∈ lw_tbl := mem_pl [507, 508, 509, 830, 831, 832, 833, 834, 836, 36, 837, 510, 511, 512, 513, 514, 515, 516, 517, 95, 518, 519, 520, 521] rfl
set_option maxRecDepth 100000 in
theorem wsL_law_r26_in : ∀ w ∈ wsL_law_r26, w ∈ lw_tbl := mem_pl [522, 523, 524, 525, 866, 867, 868, 869, 618, 526, 527, 528, 529, 530, 531, 532, 533, 870, 871, 872, 873, 534, 535, 536] rfl
set_option maxRecDepth 100000 in
theorem wsL_law_r27_in : ∀ w ∈ wsL_law_r27, w ∈ lw_tbl := mem_pl [537, 538, 539, 540, 541, 107, 542, 543, 544, 545, 546, 547, 548, 549, 550, 551, 552, 553, 555, 15, 556, 557, 558, 559] rfl
set_option maxRecDepth 100000 in
theorem wsL_law_r28_in : ∀ w ∈ wsL_law_r28, w ∈ lw_tbl := mem_pl [560, 561, 562, 563, 564, 565, 874, 875, 876, 877, 622, 621, 878, 880, 43, 881, 882, 884, 44, 885, 886, 888, 45, 889] rfl
set_option maxRecDepth 100000 in
theorem wsL_law_r29_in : ∀ w ∈ wsL_law_r29, w ∈ lw_tbl := mem_pl [566, 567, 568, 569, 890, 891, 892, 893, 570, 571, 572, 573, 574, 575, 576, 577, 578, 579, 580, 894, 895, 896, 897, 619] rfl
set_option maxRecDepth 100000 in
theorem wsL_law_r30_in : ∀ w ∈ wsL_law_r30, w ∈ lw_tbl := mem_pl [898, 900, 46, 901, 902, 904, 47, 905, 581, 582, 583, 584, 585, 906, 907, 908, 909, 586, 587, 588, 589, 910, 911, 912] rfl
set_option maxRecDepth 100000 in
theorem wsL_law_r31_in : ∀ w ∈ wsL_law_r31, w ∈ lw_tbl := mem_pl [913] rfl
theorem wsX80_in : ∀ w ∈ wsX80, w ∈ lw_tbl := by decide +kernel
theorem wsX90_in : ∀ w ∈ wsX90, w ∈ lw_tbl := by decide +kernel
theorem wsX10_in : ∀ w ∈ wsX10, w ∈ lw_tbl := by decide +kernel
theorem wsX50_in : ∀ w ∈ wsX50, w ∈ lw_tbl := by decide +kernel
theorem wsX40_in : ∀ w ∈ wsX40, w ∈ lw_tbl := by decide +kernel
theorem wsX20_in : ∀ w ∈ wsX20, w ∈ lw_tbl := by decide +kernel
theorem wsX30_in : ∀ w ∈ wsX30, w ∈ lw_tbl := by decide +kernel
theorem wsX70_in : ∀ w ∈ wsX70, w ∈ lw_tbl := by decide +kernel
theorem wsX00_in : ∀ w ∈ wsX00, w ∈ lw_tbl := by decide +kernel
set_option maxRecDepth 100000 in
theorem wsL_law_in : ∀ w ∈ wsL_law, w ∈ lw_tbl := List.forall_mem_append.mpr ⟨List.forall_mem_append.mpr ⟨List.forall_mem_append.mpr ⟨List.forall_mem_append.mpr ⟨List.forall_mem_append.mpr ⟨List.forall_mem_append.mpr ⟨List.forall_mem_append.mpr ⟨List.forall_mem_append.mpr ⟨List.forall_mem_append.mpr ⟨List.forall_mem_append.mpr ⟨List.forall_mem_append.mpr ⟨wsL_law_r1_in, List.forall_mem_append.mpr ⟨wsL_law_r2_in, List.forall_mem_append.mpr ⟨wsL_law_r3_in, List.forall_mem_append.mpr ⟨wsL_law_r4_in, List.forall_mem_append.mpr ⟨wsL_law_r5_in, List.forall_mem_append.mpr ⟨wsL_law_r6_in, List.forall_mem_append.mpr ⟨wsL_law_r7_in, List.forall_mem_append.mpr ⟨wsL_law_r8_in, List.forall_mem_append.mpr ⟨wsL_law_r9_in, List.forall_mem_append.mpr ⟨wsL_law_r10_in, List.forall_mem_append.mpr ⟨wsL_law_r11_in, List.forall_mem_append.mpr ⟨wsL_law_r12_in, List.forall_mem_append.mpr ⟨wsL_law_r13_in, List.forall_mem_append.mpr ⟨wsL_law_r14_in, List.forall_mem_append.mpr ⟨wsL_law_r15_in, List.forall_mem_append.mpr ⟨wsL_law_r16_in, List.forall_mem_append.mpr ⟨wsL_law_r17_in, List.forall_mem_append.mpr ⟨wsL_law_r18_in, List.forall_mem_append.mpr ⟨wsL_law_r19_in, List.forall_mem_append.mpr ⟨wsL_law_r20_in, List.forall_mem_append.mpr ⟨wsL_law_r21_in, List.forall_mem_append.mpr ⟨wsL_law_r22_in, List.forall_mem_append.mpr ⟨wsL_law_r23_in, List.forall_mem_append.mpr ⟨wsL_law_r24_in, List.forall_mem_append.mpr ⟨wsL_law_r25_in, List.forall_mem_append.mpr ⟨wsL_law_r26_in, List.forall_mem_append.mpr ⟨wsL_law_r27_in, List.forall_mem_append.mpr ⟨wsL_law_r28_in, List.forall_mem_append.mpr ⟨wsL_law_r29_in, List.forall_mem_append.mpr ⟨wsL_law_r30_in, wsL_law_r31_in⟩⟩⟩⟩⟩⟩⟩⟩⟩⟩⟩⟩⟩⟩⟩⟩⟩⟩⟩⟩⟩⟩⟩⟩⟩⟩⟩⟩⟩⟩, wsX80_in⟩, wsX90_in⟩, wsX10_in⟩, wsX50_in⟩, wsX40_in⟩, wsX20_in⟩, wsX30_in⟩, wsX70_in⟩, wsX00_in⟩, (fun _ h => absurd h List.not_mem_nil)⟩
