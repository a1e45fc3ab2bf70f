theorem jin_0 : ∀ w ∈ u_ws "ScriptLedger" jr_0 6, w ∈ lw_tbl := by
  have e : u_ws "ScriptLedger" jr_0 6 = [332, 334, 336, 338, 340, 342].filterMap (fun i => lw_tbl[i]?) := by decide +kernel
  intro w h
  rw [e] at h
  obtain ⟨i, -, hi⟩ := List.mem_filterMap.mp h
  exact List.mem_of_getElem? hi
theorem jin_1 : ∀ w ∈ u_ws "ScriptLedger$Draft" jr_1 2, w ∈ lw_tbl := by
  have e : u_ws "ScriptLedger$Draft" jr_1 2 = [86, 88].filterMap (fun i => lw_tbl[i]?) := by decide +kernel
  intro w h
  rw [e] at h
  obtain ⟨i, -, hi⟩ := List.mem_filterMap.mp h
  exact List.mem_of_getElem? hi
theorem jin_2 : ∀ w ∈ u_ws "ScriptLedger$Machine" jr_2 16, w ∈ lw_tbl := by
  have e : u_ws "ScriptLedger$Machine" jr_2 16 = [163, 165, 167, 169, 171, 173, 175, 177, 179, 181, 183, 185, 187, 189, 191, 193].filterMap (fun i => lw_tbl[i]?) := by decide +kernel
  intro w h
  rw [e] at h
  obtain ⟨i, -, hi⟩ := List.mem_filterMap.mp h
  exact List.mem_of_getElem? hi
theorem jin_3 : ∀ w ∈ u_ws "ScriptLedger$Scripts" jr_3 3, w ∈ lw_tbl := by
  have e : u_ws "ScriptLedger$Scripts" jr_3 3 = [109, 111, 113].filterMap (fun i => lw_tbl[i]?) := by decide +kernel
  intro w h
  rw [e] at h
  obtain ⟨i, -, hi⟩ := List.mem_filterMap.mp h
  exact List.mem_of_getElem? hi
theorem jin_4 : ∀ w ∈ u_ws "ScriptLedger$Values" jr_4 5, w ∈ lw_tbl := by
  have e : u_ws "ScriptLedger$Values" jr_4 5 = [131, 133, 135, 137, 139].filterMap (fun i => lw_tbl[i]?) := by decide +kernel
  intro w h
  rw [e] at h
  obtain ⟨i, -, hi⟩ := List.mem_filterMap.mp h
  exact List.mem_of_getElem? hi
theorem jin_5 : ∀ w ∈ u_ws "ScriptLedger$Ledger" jr_5 6, w ∈ lw_tbl := by
  have e : u_ws "ScriptLedger$Ledger" jr_5 6 = [248, 250, 252, 254, 256, 258].filterMap (fun i => lw_tbl[i]?) := by decide +kernel
  intro w h
  rw [e] at h
  obtain ⟨i, -, hi⟩ := List.mem_filterMap.mp h
  exact List.mem_of_getElem? hi
theorem jin_6 : ∀ w ∈ u_ws "ScriptLedger$OutputRow" jr_6 4, w ∈ lw_tbl := by
  have e : u_ws "ScriptLedger$OutputRow" jr_6 4 = [219, 221, 223, 225].filterMap (fun i => lw_tbl[i]?) := by decide +kernel
  intro w h
  rw [e] at h
  obtain ⟨i, -, hi⟩ := List.mem_filterMap.mp h
  exact List.mem_of_getElem? hi
theorem jin_7 : ∀ w ∈ u_ws "ScriptLedger$Transaction" jr_7 12, w ∈ lw_tbl := by
  have e : u_ws "ScriptLedger$Transaction" jr_7 12 = [301, 303, 305, 307, 309, 311, 313, 315, 317, 319, 321, 323].filterMap (fun i => lw_tbl[i]?) := by decide +kernel
  intro w h
  rw [e] at h
  obtain ⟨i, -, hi⟩ := List.mem_filterMap.mp h
  exact List.mem_of_getElem? hi
theorem jin_8 : ∀ w ∈ u_ws "ScriptLedgerModel" jr_8 50, w ∈ lw_tbl := by
  have e : u_ws "ScriptLedgerModel" jr_8 50 = [724, 726, 728, 730, 732, 734, 736, 738, 740, 742, 744, 746, 748, 750, 752, 754, 756, 758, 760, 762, 764, 766, 768, 770, 772, 774, 776, 778, 780, 782, 784, 786, 788, 790, 792, 794, 796, 798, 800, 802, 804, 806, 808, 810, 812, 814, 816, 818, 820, 822].filterMap (fun i => lw_tbl[i]?) := by decide +kernel
  intro w h
  rw [e] at h
  obtain ⟨i, -, hi⟩ := List.mem_filterMap.mp h
  exact List.mem_of_getElem? hi
set_option maxRecDepth 100000 in
theorem jio_0 : ∀ w ∈ jg_0, w ∈ lw_tbl := by
  have e : jg_0 = [57, 58, 59, 60, 61, 62, 63, 64, 65, 66, 67, 68, 69, 70, 71, 72, 73, 74, 75, 76, 77, 79, 80, 81, 82, 83, 84, 85, 91, 92, 93, 95, 96, 97, 98, 99, 101, 102, 103, 104].filterMap (fun i => lw_tbl[i]?) := by rfl
  intro w h
  rw [e] at h
  obtain ⟨i, -, hi⟩ := List.mem_filterMap.mp h
  exact List.mem_of_getElem? hi
set_option maxRecDepth 100000 in
theorem jio_1 : ∀ w ∈ jg_1, w ∈ lw_tbl := by
  have e : jg_1 = [105, 106, 107, 108, 116, 117, 119, 120, 121, 122, 123, 124, 125, 126, 127, 128, 129, 130, 142, 143, 144, 145, 146, 147, 148, 149, 150, 151, 152, 153, 154, 155, 156, 157, 158, 159, 160, 161, 162, 196].filterMap (fun i => lw_tbl[i]?) := by rfl
  intro w h
  rw [e] at h
  obtain ⟨i, -, hi⟩ := List.mem_filterMap.mp h
  exact List.mem_of_getElem? hi
set_option maxRecDepth 100000 in
theorem jio_2 : ∀ w ∈ jg_2, w ∈ lw_tbl := by
  have e : jg_2 = [197, 198, 199, 200, 201, 202, 203, 204, 205, 206, 207, 208, 209, 210, 211, 212, 213, 214, 215, 216, 217, 218, 228, 229, 230, 231, 232, 233, 234, 235, 236, 237, 238, 239, 240, 241, 242, 243, 244, 245].filterMap (fun i => lw_tbl[i]?) := by rfl
  intro w h
  rw [e] at h
  obtain ⟨i, -, hi⟩ := List.mem_filterMap.mp h
  exact List.mem_of_getElem? hi
set_option maxRecDepth 100000 in
theorem jio_3 : ∀ w ∈ jg_3, w ∈ lw_tbl := by
  have e : jg_3 = [246, 247, 261, 262, 263, 264, 265, 266, 267, 268, 269, 270, 271, 272, 273, 274, 275, 276, 277, 278, 279, 280, 281, 282, 283, 284, 285, 286, 287, 288, 289, 290, 291, 292, 293, 294, 295, 296, 297, 298].filterMap (fun i => lw_tbl[i]?) := by rfl
  intro w h
  rw [e] at h
  obtain ⟨i, -, hi⟩ := List.mem_filterMap.mp h
  exact List.mem_of_getElem? hi
set_option maxRecDepth 100000 in
theorem jio_4 : ∀ w ∈ jg_4, w ∈ lw_tbl := by
  have e : jg_4 = [299, 300, 326, 327, 328, 329, 330, 331, 345, 346, 347, 348, 349, 350, 351, 352, 353, 354, 355, 356, 357, 358, 359, 360, 361, 362, 363, 364, 365, 366, 367, 368, 369, 370, 371, 372, 373, 374, 375, 376].filterMap (fun i => lw_tbl[i]?) := by rfl
  intro w h
  rw [e] at h
  obtain ⟨i, -, hi⟩ := List.mem_filterMap.mp h
  exact List.mem_of_getElem? hi
set_option maxRecDepth 100000 in
theorem jio_5 : ∀ w ∈ jg_5, w ∈ lw_tbl := by
  have e : jg_5 = [377, 378, 379, 380, 381, 382, 383, 384, 386, 387, 388, 389, 390, 391, 392, 393, 394, 395, 396, 398, 399, 400, 402, 403, 404, 405, 406, 407, 408, 409, 410, 411, 412, 414, 415, 416, 418, 419, 420, 422].filterMap (fun i => lw_tbl[i]?) := by rfl
  intro w h
  rw [e] at h
  obtain ⟨i, -, hi⟩ := List.mem_filterMap.mp h
  exact List.mem_of_getElem? hi
set_option maxRecDepth 100000 in
theorem jio_6 : ∀ w ∈ jg_6, w ∈ lw_tbl := by
  have e : jg_6 = [423, 424, 426, 427, 428, 429, 430, 431, 432, 434, 435, 436, 437, 439, 440, 441, 443, 444, 445, 446, 447, 448, 450, 451, 452, 454, 455, 456, 458, 459, 460, 462, 464, 465, 466, 468, 470, 471, 472, 473].filterMap (fun i => lw_tbl[i]?) := by rfl
  intro w h
  rw [e] at h
  obtain ⟨i, -, hi⟩ := List.mem_filterMap.mp h
  exact List.mem_of_getElem? hi
set_option maxRecDepth 100000 in
theorem jio_7 : ∀ w ∈ jg_7, w ∈ lw_tbl := by
  have e : jg_7 = [474, 475, 477, 478, 479, 481, 482, 483, 485, 486, 487, 488, 489, 490, 491, 492, 493, 494, 495, 496, 497, 498, 499, 500, 501, 502, 503, 504, 505, 506, 507, 508, 509, 510, 511, 512, 513, 514, 515, 516].filterMap (fun i => lw_tbl[i]?) := by rfl
  intro w h
  rw [e] at h
  obtain ⟨i, -, hi⟩ := List.mem_filterMap.mp h
  exact List.mem_of_getElem? hi
set_option maxRecDepth 100000 in
theorem jio_8 : ∀ w ∈ jg_8, w ∈ lw_tbl := by
  have e : jg_8 = [517, 518, 519, 520, 521, 522, 523, 524, 525, 526, 527, 528, 529, 530, 531, 532, 533, 534, 535, 536, 538, 539, 540, 542, 543, 544, 545, 546, 547, 548, 549, 550, 551, 552, 553, 554, 555, 556, 558, 559].filterMap (fun i => lw_tbl[i]?) := by rfl
  intro w h
  rw [e] at h
  obtain ⟨i, -, hi⟩ := List.mem_filterMap.mp h
  exact List.mem_of_getElem? hi
set_option maxRecDepth 100000 in
theorem jio_9 : ∀ w ∈ jg_9, w ∈ lw_tbl := by
  have e : jg_9 = [560, 562, 563, 564, 565, 566, 567, 568, 569, 570, 571, 572, 573, 575, 576, 577, 578, 579, 580, 581, 583, 584, 585, 586, 587, 588, 590, 591, 592, 594, 595, 596, 598, 599, 600, 602, 603, 604, 606, 607].filterMap (fun i => lw_tbl[i]?) := by rfl
  intro w h
  rw [e] at h
  obtain ⟨i, -, hi⟩ := List.mem_filterMap.mp h
  exact List.mem_of_getElem? hi
set_option maxRecDepth 100000 in
theorem jio_10 : ∀ w ∈ jg_10, w ∈ lw_tbl := by
  have e : jg_10 = [608, 609, 610, 611, 612, 613, 614, 615, 616, 617, 618, 619, 620, 621, 622, 623, 624, 625, 626, 627, 628, 629, 630, 631, 632, 633, 634, 635, 636, 637, 638, 639, 640, 641, 642, 643, 644, 645, 646, 647].filterMap (fun i => lw_tbl[i]?) := by rfl
  intro w h
  rw [e] at h
  obtain ⟨i, -, hi⟩ := List.mem_filterMap.mp h
  exact List.mem_of_getElem? hi
set_option maxRecDepth 100000 in
theorem jio_11 : ∀ w ∈ jg_11, w ∈ lw_tbl := by
  have e : jg_11 = [648, 649, 650, 651, 652, 653, 654, 655, 656, 657, 658, 659, 660, 661, 662, 663, 664, 665, 666, 667, 668, 669, 670, 671, 672, 673, 674, 675, 676, 677, 678, 679, 680, 681, 682, 683, 684, 685, 686, 687].filterMap (fun i => lw_tbl[i]?) := by rfl
  intro w h
  rw [e] at h
  obtain ⟨i, -, hi⟩ := List.mem_filterMap.mp h
  exact List.mem_of_getElem? hi
set_option maxRecDepth 100000 in
theorem jio_12 : ∀ w ∈ jg_12, w ∈ lw_tbl := by
  have e : jg_12 = [688, 689, 690, 691, 692, 693, 694, 695, 696, 697, 698, 699, 700, 701, 702, 703, 704, 705, 706, 707, 708, 709, 710, 711, 712, 713, 714, 715, 716, 717, 718, 719, 720, 721, 722, 723, 825, 826, 827, 828].filterMap (fun i => lw_tbl[i]?) := by rfl
  intro w h
  rw [e] at h
  obtain ⟨i, -, hi⟩ := List.mem_filterMap.mp h
  exact List.mem_of_getElem? hi
set_option maxRecDepth 100000 in
theorem jio_13 : ∀ w ∈ jg_13, w ∈ lw_tbl := by
  have e : jg_13 = [829, 830, 831, 832, 833, 834, 836, 837, 838, 839, 840, 841, 842, 843, 844, 845, 847, 848, 849, 851, 852, 853, 855, 856, 857, 859, 860, 861, 863, 864, 865, 867, 868, 869, 871, 872, 873, 875, 876, 877].filterMap (fun i => lw_tbl[i]?) := by rfl
  intro w h
  rw [e] at h
  obtain ⟨i, -, hi⟩ := List.mem_filterMap.mp h
  exact List.mem_of_getElem? hi
set_option maxRecDepth 100000 in
theorem jio_14 : ∀ w ∈ jg_14, w ∈ lw_tbl := by
  have e : jg_14 = [879, 880, 881, 883, 884, 885, 886, 887, 888, 890, 891, 892, 894, 895, 896, 898, 899, 900, 902, 903, 904, 905, 906, 907, 908, 909, 910, 911, 912, 913, 914, 915, 916, 918, 919, 920, 921, 922, 923, 924].filterMap (fun i => lw_tbl[i]?) := by rfl
  intro w h
  rw [e] at h
  obtain ⟨i, -, hi⟩ := List.mem_filterMap.mp h
  exact List.mem_of_getElem? hi
set_option maxRecDepth 100000 in
theorem jio_15 : ∀ w ∈ jg_15, w ∈ lw_tbl := by
  have e : jg_15 = [925, 926, 927, 928, 929, 930, 931, 932, 933, 934, 935, 936, 937, 938, 939, 940, 941, 942, 943, 945, 946, 947, 949, 950, 951, 953, 954, 955, 957, 958, 959, 961, 962, 963, 965, 966, 967, 969, 970, 971].filterMap (fun i => lw_tbl[i]?) := by rfl
  intro w h
  rw [e] at h
  obtain ⟨i, -, hi⟩ := List.mem_filterMap.mp h
  exact List.mem_of_getElem? hi
set_option maxRecDepth 100000 in
theorem jio_16 : ∀ w ∈ jg_16, w ∈ lw_tbl := by
  have e : jg_16 = [973, 974, 975, 976, 978, 979, 980, 982, 983, 984, 986, 987, 988, 990, 991, 992, 993, 994, 995, 996, 997, 998, 999, 1000, 1001, 1002, 1003, 1004, 1005, 1006, 1007, 1008, 1009, 1010, 1011, 1012, 1013, 1014, 1015, 1016].filterMap (fun i => lw_tbl[i]?) := by rfl
  intro w h
  rw [e] at h
  obtain ⟨i, -, hi⟩ := List.mem_filterMap.mp h
  exact List.mem_of_getElem? hi
set_option maxRecDepth 100000 in
theorem jio_17 : ∀ w ∈ jg_17, w ∈ lw_tbl := by
  have e : jg_17 = [1017, 1018, 1019, 1020, 1021, 0, 1, 2, 3, 4, 5, 6, 7, 8, 9, 10, 11, 12, 13, 14, 15, 16, 17, 18, 19, 20, 21, 22, 23, 24, 25, 26, 27, 28, 29, 30, 31, 32, 33, 34].filterMap (fun i => lw_tbl[i]?) := by rfl
  intro w h
  rw [e] at h
  obtain ⟨i, -, hi⟩ := List.mem_filterMap.mp h
  exact List.mem_of_getElem? hi
set_option maxRecDepth 100000 in
theorem jio_18 : ∀ w ∈ jg_18, w ∈ lw_tbl := by
  have e : jg_18 = [35, 36, 37, 38, 39, 40, 41, 42, 43, 44, 45, 46, 47, 48, 49, 50, 51, 52, 53, 54, 55, 56].filterMap (fun i => lw_tbl[i]?) := by rfl
  intro w h
  rw [e] at h
  obtain ⟨i, -, hi⟩ := List.mem_filterMap.mp h
  exact List.mem_of_getElem? hi
theorem jx_gwT : ∀ w ∈ jx_gw, w ∈ lw_tbl := by
  intro w hw
  have h : w ∈ u_ws "ScriptLedger" jr_0 6 ++ (u_ws "ScriptLedger$Draft" jr_1 2 ++ (u_ws "ScriptLedger$Machine" jr_2 16 ++ (u_ws "ScriptLedger$Scripts" jr_3 3 ++ (u_ws "ScriptLedger$Values" jr_4 5 ++ (u_ws "ScriptLedger$Ledger" jr_5 6 ++ (u_ws "ScriptLedger$OutputRow" jr_6 4 ++ (u_ws "ScriptLedger$Transaction" jr_7 12 ++ (u_ws "ScriptLedgerModel" jr_8 50 ++ (jg_0 ++ (jg_1 ++ (jg_2 ++ (jg_3 ++ (jg_4 ++ (jg_5 ++ (jg_6 ++ (jg_7 ++ (jg_8 ++ (jg_9 ++ (jg_10 ++ (jg_11 ++ (jg_12 ++ (jg_13 ++ (jg_14 ++ (jg_15 ++ (jg_16 ++ (jg_17 ++ (jg_18))))))))))))))))))))))))))) := hw
  rcases List.mem_append.mp h with h | h
  · exact jin_0 w h
  rcases List.mem_append.mp h with h | h
  · exact jin_1 w h
  rcases List.mem_append.mp h with h | h
  · exact jin_2 w h
  rcases List.mem_append.mp h with h | h
  · exact jin_3 w h
  rcases List.mem_append.mp h with h | h
  · exact jin_4 w h
  rcases List.mem_append.mp h with h | h
  · exact jin_5 w h
  rcases List.mem_append.mp h with h | h
  · exact jin_6 w h
  rcases List.mem_append.mp h with h | h
  · exact jin_7 w h
  rcases List.mem_append.mp h with h | h
  · exact jin_8 w h
  rcases List.mem_append.mp h with h | h
  · exact jio_0 w h
  rcases List.mem_append.mp h with h | h
  · exact jio_1 w h
  rcases List.mem_append.mp h with h | h
  · exact jio_2 w h
  rcases List.mem_append.mp h with h | h
  · exact jio_3 w h
  rcases List.mem_append.mp h with h | h
  · exact jio_4 w h
  rcases List.mem_append.mp h with h | h
  · exact jio_5 w h
  rcases List.mem_append.mp h with h | h
  · exact jio_6 w h
  rcases List.mem_append.mp h with h | h
  · exact jio_7 w h
  rcases List.mem_append.mp h with h | h
  · exact jio_8 w h
  rcases List.mem_append.mp h with h | h
  · exact jio_9 w h
  rcases List.mem_append.mp h with h | h
  · exact jio_10 w h
  rcases List.mem_append.mp h with h | h
  · exact jio_11 w h
  rcases List.mem_append.mp h with h | h
  · exact jio_12 w h
  rcases List.mem_append.mp h with h | h
  · exact jio_13 w h
  rcases List.mem_append.mp h with h | h
  · exact jio_14 w h
  rcases List.mem_append.mp h with h | h
  · exact jio_15 w h
  rcases List.mem_append.mp h with h | h
  · exact jio_16 w h
  rcases List.mem_append.mp h with h | h
  · exact jio_17 w h
  exact jio_18 w h
set_option maxRecDepth 100000 in
theorem jx_nwT : ∀ w ∈ jx_nw, w ∈ lw_tbl := by
  have e : jx_nw = [78, 94, 100, 118].filterMap (fun i => lw_tbl[i]?) := by decide +kernel
  intro w h
  rw [e] at h
  obtain ⟨i, -, hi⟩ := List.mem_filterMap.mp h
  exact List.mem_of_getElem? hi
