set_option maxRecDepth 100000 in
theorem dce_0 : dclOK (0, 32, 3, 1, 0, 292, 293, 294, 64, 295) = true := by decide +kernel
set_option maxRecDepth 100000 in
theorem dce_1 : dclOK (0, 40, 4, 1, 0, 296, 297, 298, 65, 299) = true := by decide +kernel
set_option maxRecDepth 100000 in
theorem dce_2 : dclOK (0, 77, 6, 3, 2, 304, 305, 0, 62, 306) = true := by decide +kernel
set_option maxRecDepth 100000 in
theorem dce_3 : dclOK (0, 87, 11, 1, 1, 327, 328, 0, 63, 329) = true := by decide +kernel
set_option maxRecDepth 100000 in
theorem dce_4 : dclOK (0, 108, 14, 1, 0, 338, 339, 340, 63, 341) = true := by decide +kernel
set_option maxRecDepth 100000 in
theorem dce_5 : dclOK (0, 112, 15, 0, 0, 342, 344, 1, 63, 345) = true := by decide +kernel
set_option maxRecDepth 100000 in
theorem dce_6 : dclOK (0, 118, 18, 1, 2, 354, 355, 0, 62, 356) = true := by decide +kernel
set_option maxRecDepth 100000 in
theorem dce_7 : dclOK (0, 122, 21, 0, 0, 365, 366, 367, 64, 368) = true := by decide +kernel
set_option maxRecDepth 100000 in
theorem dce_8 : dclOK (0, 125, 25, 0, 0, 381, 382, 383, 63, 384) = true := by decide +kernel
set_option maxRecDepth 100000 in
theorem dce_9 : dclOK (0, 130, 29, 0, 0, 398, 399, 400, 63, 401) = true := by decide +kernel
set_option maxRecDepth 100000 in
theorem dce_10 : dclOK (0, 133, 30, 0, 0, 402, 404, 3, 63, 405) = true := by decide +kernel
set_option maxRecDepth 100000 in
theorem dce_11 : dclOK (0, 136, 31, 0, 0, 407, 409, 4, 63, 410) = true := by decide +kernel
set_option maxRecDepth 100000 in
theorem dce_12 : dclOK (0, 139, 35, 0, 0, 423, 425, 6, 63, 426) = true := by decide +kernel
set_option maxRecDepth 100000 in
theorem dce_13 : dclOK (0, 142, 37, 1, 0, 431, 433, 8, 63, 434) = true := by decide +kernel
set_option maxRecDepth 100000 in
theorem dce_14 : dclOK (0, 146, 42, 0, 0, 451, 453, 12, 63, 454) = true := by decide +kernel
set_option maxRecDepth 100000 in
theorem dce_15 : dclOK (0, 149, 22, 0, 0, 406, 370, 371, 64, 372) = true := by decide +kernel
set_option maxRecDepth 100000 in
theorem dce_16 : dclOK (0, 155, 32, 0, 0, 411, 412, 413, 64, 414) = true := by decide +kernel
set_option maxRecDepth 100000 in
theorem dce_17 : dclOK (0, 158, 33, 1, 0, 415, 417, 5, 63, 418) = true := by decide +kernel
set_option maxRecDepth 100000 in
theorem dce_18 : dclOK (0, 161, 34, 0, 0, 419, 420, 421, 64, 422) = true := by decide +kernel
set_option maxRecDepth 100000 in
theorem dce_19 : dclOK (0, 167, 36, 1, 0, 427, 429, 7, 63, 430) = true := by decide +kernel
set_option maxRecDepth 100000 in
theorem dce_20 : dclOK (0, 170, 38, 1, 0, 435, 437, 9, 63, 438) = true := by decide +kernel
set_option maxRecDepth 100000 in
theorem dce_21 : dclOK (0, 173, 39, 2, 0, 439, 441, 10, 63, 442) = true := by decide +kernel
set_option maxRecDepth 100000 in
theorem dce_22 : dclOK (0, 177, 41, 1, 0, 447, 448, 449, 64, 450) = true := by decide +kernel
set_option maxRecDepth 100000 in
theorem dce_23 : dclOK (0, 180, 40, 0, 0, 443, 445, 11, 63, 446) = true := by decide +kernel
set_option maxRecDepth 100000 in
theorem dce_24 : dclOK (0, 189, 26, 1, 0, 385, 387, 2, 63, 388) = true := by decide +kernel
set_option maxRecDepth 100000 in
theorem dce_25 : dclOK (0, 197, 77, 1, 0, 618, 620, 24, 63, 621) = true := by decide +kernel
set_option maxRecDepth 100000 in
theorem dce_26 : dclOK (1, 34, 22, 0, 0, 369, 370, 371, 64, 372) = true := by decide +kernel
set_option maxRecDepth 100000 in
theorem dce_27 : dclOK (3, 40, 1, 1, 0, 284, 285, 286, 66, 287) = true := by decide +kernel
set_option maxRecDepth 100000 in
theorem dce_28 : dclOK (3, 44, 5, 2, 0, 300, 301, 302, 63, 303) = true := by decide +kernel
set_option maxRecDepth 100000 in
theorem dce_29 : dclOK (3, 48, 7, 1, 0, 311, 312, 313, 66, 314) = true := by decide +kernel
set_option maxRecDepth 100000 in
theorem dce_30 : dclOK (3, 52, 10, 2, 0, 323, 324, 325, 63, 326) = true := by decide +kernel
set_option maxRecDepth 100000 in
theorem dce_31 : dclOK (3, 55, 13, 1, 0, 334, 335, 336, 63, 337) = true := by decide +kernel
set_option maxRecDepth 100000 in
theorem dce_32 : dclOK (3, 58, 17, 1, 0, 350, 351, 352, 63, 353) = true := by decide +kernel
set_option maxRecDepth 100000 in
theorem dce_33 : dclOK (3, 61, 20, 1, 0, 361, 362, 363, 63, 364) = true := by decide +kernel
set_option maxRecDepth 100000 in
theorem dce_34 : dclOK (3, 64, 24, 0, 0, 377, 378, 379, 63, 380) = true := by decide +kernel
set_option maxRecDepth 100000 in
theorem dce_35 : dclOK (3, 68, 28, 1, 0, 393, 394, 395, 63, 396) = true := by decide +kernel
set_option maxRecDepth 100000 in
theorem dce_36 : dclOK (3, 71, 44, 1, 0, 462, 463, 464, 67, 465) = true := by decide +kernel
set_option maxRecDepth 100000 in
theorem dce_37 : dclOK (3, 79, 47, 0, 0, 474, 475, 476, 67, 477) = true := by decide +kernel
set_option maxRecDepth 100000 in
theorem dce_38 : dclOK (3, 95, 66, 3, 0, 573, 575, 23, 62, 576) = true := by decide +kernel
set_option maxRecDepth 100000 in
theorem dce_39 : dclOK (3, 99, 67, 1, 1, 577, 578, 0, 62, 579) = true := by decide +kernel
set_option maxRecDepth 100000 in
theorem dce_40 : dclOK (3, 103, 68, 1, 0, 580, 581, 582, 66, 583) = true := by decide +kernel
set_option maxRecDepth 100000 in
theorem dce_41 : dclOK (3, 106, 70, 1, 0, 589, 590, 591, 66, 592) = true := by decide +kernel
set_option maxRecDepth 100000 in
theorem dce_42 : dclOK (3, 113, 2, 1, 0, 597, 289, 290, 63, 291) = true := by decide +kernel
set_option maxRecDepth 100000 in
theorem dce_43 : dclOK (3, 119, 74, 2, 0, 606, 607, 608, 63, 609) = true := by decide +kernel
set_option maxRecDepth 100000 in
theorem dce_44 : dclOK (3, 122, 76, 2, 0, 614, 615, 616, 63, 617) = true := by decide +kernel
set_option maxRecDepth 100000 in
theorem dce_45 : dclOK (3, 125, 79, 0, 0, 626, 627, 628, 63, 629) = true := by decide +kernel
set_option maxRecDepth 100000 in
theorem dce_46 : dclOK (3, 128, 14, 1, 0, 634, 339, 340, 63, 341) = true := by decide +kernel
set_option maxRecDepth 100000 in
theorem dce_47 : dclOK (3, 147, 29, 0, 0, 635, 399, 400, 63, 401) = true := by decide +kernel
set_option maxRecDepth 100000 in
theorem dce_48 : dclOK (3, 161, 6, 3, 1, 642, 305, 0, 62, 306) = true := by decide +kernel
set_option maxRecDepth 100000 in
theorem dce_49 : dclOK (3, 165, 82, 2, 0, 643, 645, 25, 62, 646) = true := by decide +kernel
set_option maxRecDepth 100000 in
theorem dce_50 : dclOK (3, 168, 83, 1, 0, 647, 649, 26, 62, 650) = true := by decide +kernel
set_option maxRecDepth 100000 in
theorem dce_51 : dclOK (3, 175, 18, 1, 1, 651, 355, 0, 62, 356) = true := by decide +kernel
set_option maxRecDepth 100000 in
theorem dce_52 : dclOK (3, 179, 86, 1, 0, 660, 661, 662, 63, 663) = true := by decide +kernel
set_option maxRecDepth 100000 in
theorem dce_53 : dclOK (4, 22, 2, 1, 0, 288, 289, 290, 63, 291) = true := by decide +kernel
set_option maxRecDepth 100000 in
theorem dce_54 : dclOK (4, 26, 8, 0, 0, 315, 317, 0, 66, 318) = true := by decide +kernel
set_option maxRecDepth 100000 in
theorem dce_55 : dclOK (5, 35, 48, 1, 0, 478, 480, 13, 67, 481) = true := by decide +kernel
set_option maxRecDepth 100000 in
theorem dce_56 : dclOK (5, 39, 62, 1, 0, 557, 559, 19, 67, 560) = true := by decide +kernel
set_option maxRecDepth 100000 in
theorem dce_57 : dclOK (5, 43, 49, 0, 0, 482, 484, 14, 67, 485) = true := by decide +kernel
set_option maxRecDepth 100000 in
theorem dce_58 : dclOK (5, 47, 60, 3, 0, 549, 551, 17, 67, 552) = true := by decide +kernel
set_option maxRecDepth 100000 in
theorem dce_59 : dclOK (5, 51, 65, 3, 0, 569, 571, 22, 67, 572) = true := by decide +kernel
set_option maxRecDepth 100000 in
theorem dce_60 : dclOK (5, 54, 61, 2, 0, 553, 555, 18, 67, 556) = true := by decide +kernel
set_option maxRecDepth 100000 in
theorem dce_61 : dclOK (5, 58, 63, 2, 0, 561, 563, 20, 67, 564) = true := by decide +kernel
set_option maxRecDepth 100000 in
theorem dce_62 : dclOK (5, 61, 50, 1, 1, 486, 487, 0, 67, 488) = true := by decide +kernel
set_option maxRecDepth 100000 in
theorem dce_63 : dclOK (5, 65, 51, 1, 0, 493, 495, 15, 67, 496) = true := by decide +kernel
set_option maxRecDepth 100000 in
theorem dce_64 : dclOK (5, 69, 52, 0, 0, 497, 498, 499, 70, 500) = true := by decide +kernel
set_option maxRecDepth 100000 in
theorem dce_65 : dclOK (5, 73, 54, 1, 0, 507, 508, 509, 70, 510) = true := by decide +kernel
set_option maxRecDepth 100000 in
theorem dce_66 : dclOK (5, 77, 59, 2, 0, 545, 547, 16, 67, 548) = true := by decide +kernel
set_option maxRecDepth 100000 in
theorem dce_67 : dclOK (5, 89, 64, 0, 0, 565, 567, 21, 67, 568) = true := by decide +kernel
set_option maxRecDepth 100000 in
theorem dce_68 : dclOK (6, 29, 88, 3, 1, 721, 722, 0, 68, 723) = true := by decide +kernel
set_option maxRecDepth 100000 in
theorem dce_69 : dclOK (6, 37, 96, 2, 1, 749, 750, 0, 68, 751) = true := by decide +kernel
set_option maxRecDepth 100000 in
theorem dce_70 : dclOK (6, 41, 94, 2, 1, 742, 743, 0, 68, 744) = true := by decide +kernel
set_option maxRecDepth 100000 in
theorem dce_71 : dclOK (6, 44, 109, 1, 0, 800, 802, 38, 68, 803) = true := by decide +kernel
set_option maxRecDepth 100000 in
theorem dce_72 : dclOK (6, 48, 108, 1, 0, 796, 798, 37, 68, 799) = true := by decide +kernel
set_option maxRecDepth 100000 in
theorem dce_73 : dclOK (6, 51, 115, 1, 0, 825, 827, 43, 68, 828) = true := by decide +kernel
set_option maxRecDepth 100000 in
theorem dce_74 : dclOK (6, 55, 104, 1, 0, 780, 782, 34, 68, 783) = true := by decide +kernel
set_option maxRecDepth 100000 in
theorem dce_75 : dclOK (6, 58, 99, 1, 0, 760, 762, 31, 68, 763) = true := by decide +kernel
set_option maxRecDepth 100000 in
theorem dce_76 : dclOK (6, 61, 118, 1, 0, 837, 839, 46, 68, 840) = true := by decide +kernel
set_option maxRecDepth 100000 in
theorem dce_77 : dclOK (6, 64, 117, 1, 0, 833, 835, 45, 68, 836) = true := by decide +kernel
set_option maxRecDepth 100000 in
theorem dce_78 : dclOK (6, 67, 121, 1, 0, 849, 851, 49, 68, 852) = true := by decide +kernel
set_option maxRecDepth 100000 in
theorem dce_79 : dclOK (6, 70, 107, 0, 0, 792, 794, 36, 68, 795) = true := by decide +kernel
set_option maxRecDepth 100000 in
theorem dce_80 : dclOK (6, 74, 114, 0, 0, 821, 823, 42, 68, 824) = true := by decide +kernel
set_option maxRecDepth 100000 in
theorem dce_81 : dclOK (6, 77, 116, 0, 0, 829, 831, 44, 68, 832) = true := by decide +kernel
set_option maxRecDepth 100000 in
theorem dce_82 : dclOK (6, 80, 119, 0, 0, 841, 843, 47, 68, 844) = true := by decide +kernel
set_option maxRecDepth 100000 in
theorem dce_83 : dclOK (6, 83, 120, 0, 0, 845, 847, 48, 68, 848) = true := by decide +kernel
set_option maxRecDepth 100000 in
theorem dce_84 : dclOK (6, 86, 122, 0, 0, 853, 855, 50, 68, 856) = true := by decide +kernel
set_option maxRecDepth 100000 in
theorem dce_85 : dclOK (6, 89, 93, 1, 1, 739, 740, 0, 68, 741) = true := by decide +kernel
set_option maxRecDepth 100000 in
theorem dce_86 : dclOK (6, 94, 113, 0, 0, 817, 819, 41, 68, 820) = true := by decide +kernel
set_option maxRecDepth 100000 in
theorem dce_87 : dclOK (6, 97, 89, 2, 1, 724, 725, 0, 68, 726) = true := by decide +kernel
set_option maxRecDepth 100000 in
theorem dce_88 : dclOK (6, 101, 90, 0, 0, 727, 729, 27, 68, 730) = true := by decide +kernel
set_option maxRecDepth 100000 in
theorem dce_89 : dclOK (6, 104, 92, 2, 0, 735, 737, 28, 68, 738) = true := by decide +kernel
set_option maxRecDepth 100000 in
theorem dce_90 : dclOK (6, 107, 95, 2, 0, 745, 747, 29, 68, 748) = true := by decide +kernel
set_option maxRecDepth 100000 in
theorem dce_91 : dclOK (6, 110, 98, 1, 0, 756, 758, 30, 68, 759) = true := by decide +kernel
set_option maxRecDepth 100000 in
theorem dce_92 : dclOK (6, 113, 101, 1, 0, 768, 770, 32, 68, 771) = true := by decide +kernel
set_option maxRecDepth 100000 in
theorem dce_93 : dclOK (6, 116, 102, 1, 0, 772, 774, 33, 68, 775) = true := by decide +kernel
set_option maxRecDepth 100000 in
theorem dce_94 : dclOK (6, 119, 106, 0, 0, 788, 790, 35, 68, 791) = true := by decide +kernel
set_option maxRecDepth 100000 in
theorem dce_95 : dclOK (6, 122, 111, 1, 0, 808, 810, 39, 68, 811) = true := by decide +kernel
set_option maxRecDepth 100000 in
theorem dce_96 : dclOK (6, 125, 112, 1, 0, 813, 815, 40, 68, 816) = true := by decide +kernel
set_option maxRecDepth 100000 in
theorem dce_97 : dclOK (6, 138, 129, 2, 0, 881, 883, 54, 68, 884) = true := by decide +kernel
set_option maxRecDepth 100000 in
theorem dce_98 : dclOK (6, 141, 128, 1, 0, 877, 879, 53, 68, 880) = true := by decide +kernel
set_option maxRecDepth 100000 in
theorem dce_99 : dclOK (6, 153, 130, 2, 0, 885, 887, 55, 68, 888) = true := by decide +kernel
set_option maxRecDepth 100000 in
theorem dce_100 : dclOK (6, 159, 127, 0, 0, 873, 875, 52, 68, 876) = true := by decide +kernel
set_option maxRecDepth 100000 in
theorem dce_101 : dclOK (6, 162, 131, 0, 0, 889, 891, 56, 68, 892) = true := by decide +kernel
set_option maxRecDepth 100000 in
theorem dce_102 : dclOK (6, 165, 126, 1, 0, 869, 871, 51, 68, 872) = true := by decide +kernel
set_option maxRecDepth 100000 in
theorem dce_103 : dclOK (6, 169, 132, 0, 0, 893, 895, 57, 68, 896) = true := by decide +kernel
set_option maxRecDepth 100000 in
theorem dce_104 : dclOK (6, 172, 133, 0, 0, 897, 899, 58, 68, 900) = true := by decide +kernel
set_option maxRecDepth 100000 in
theorem dce_105 : dclOK (6, 178, 138, 2, 0, 917, 919, 59, 68, 920) = true := by decide +kernel
set_option maxRecDepth 100000 in
theorem dce_106 : dclOK (6, 181, 143, 2, 0, 937, 939, 60, 68, 940) = true := by decide +kernel
set_option maxRecDepth 100000 in
theorem dce_107 : dclOK (7, 335, 53, 0, 0, 501, 502, 503, 70, 504) = true := by decide +kernel
set_option maxRecDepth 100000 in
theorem dce_108 : dclOK (7, 492, 55, 0, 0, 511, 512, 513, 70, 514) = true := by decide +kernel
set_option maxRecDepth 100000 in
theorem dce_109 : dclOK (7, 495, 56, 2, 1, 515, 516, 0, 71, 517) = true := by decide +kernel
set_option maxRecDepth 100000 in
theorem dce_110 : dclOK (7, 1059, 58, 3, 1, 523, 524, 0, 72, 525) = true := by decide +kernel
set_option maxRecDepth 100000 in
theorem dce_111 : dclOK (8, 9, 57, 2, 1, 518, 519, 0, 70, 520) = true := by decide +kernel
set_option maxRecDepth 100000 in
theorem dce_112 : dclOK (11, 13, 0, 2, 0, 280, 281, 282, 62, 283) = true := by decide +kernel
set_option maxRecDepth 100000 in
theorem dce_113 : dclOK (11, 17, 87, 2, 0, 717, 718, 719, 68, 720) = true := by decide +kernel
set_option maxRecDepth 100000 in
theorem dce_114 : dclOK (11, 18, 9, 2, 0, 319, 320, 321, 62, 322) = true := by decide +kernel
set_option maxRecDepth 100000 in
theorem dce_115 : dclOK (11, 21, 91, 2, 0, 731, 732, 733, 68, 734) = true := by decide +kernel
set_option maxRecDepth 100000 in
theorem dce_116 : dclOK (11, 22, 12, 1, 0, 330, 331, 332, 62, 333) = true := by decide +kernel
set_option maxRecDepth 100000 in
theorem dce_117 : dclOK (11, 26, 97, 1, 0, 752, 753, 754, 68, 755) = true := by decide +kernel
set_option maxRecDepth 100000 in
theorem dce_118 : dclOK (11, 27, 16, 1, 0, 346, 347, 348, 62, 349) = true := by decide +kernel
set_option maxRecDepth 100000 in
theorem dce_119 : dclOK (11, 30, 100, 1, 0, 764, 765, 766, 68, 767) = true := by decide +kernel
set_option maxRecDepth 100000 in
theorem dce_120 : dclOK (11, 31, 19, 1, 0, 357, 358, 359, 62, 360) = true := by decide +kernel
set_option maxRecDepth 100000 in
theorem dce_121 : dclOK (11, 34, 103, 1, 0, 776, 777, 778, 68, 779) = true := by decide +kernel
set_option maxRecDepth 100000 in
theorem dce_122 : dclOK (11, 35, 23, 0, 0, 373, 374, 375, 62, 376) = true := by decide +kernel
set_option maxRecDepth 100000 in
theorem dce_123 : dclOK (11, 39, 105, 0, 0, 784, 785, 786, 68, 787) = true := by decide +kernel
set_option maxRecDepth 100000 in
theorem dce_124 : dclOK (11, 40, 27, 1, 0, 389, 390, 391, 62, 392) = true := by decide +kernel
set_option maxRecDepth 100000 in
theorem dce_125 : dclOK (11, 43, 110, 1, 0, 804, 805, 806, 68, 807) = true := by decide +kernel
set_option maxRecDepth 100000 in
theorem dce_126 : dclOK (11, 44, 43, 1, 0, 458, 459, 460, 62, 461) = true := by decide +kernel
set_option maxRecDepth 100000 in
theorem dce_127 : dclOK (11, 48, 123, 1, 0, 857, 858, 859, 68, 860) = true := by decide +kernel
set_option maxRecDepth 100000 in
theorem dce_128 : dclOK (11, 49, 45, 0, 0, 466, 467, 468, 62, 469) = true := by decide +kernel
set_option maxRecDepth 100000 in
theorem dce_129 : dclOK (11, 52, 124, 0, 0, 861, 862, 863, 68, 864) = true := by decide +kernel
set_option maxRecDepth 100000 in
theorem dce_130 : dclOK (11, 53, 46, 0, 0, 470, 471, 472, 62, 473) = true := by decide +kernel
set_option maxRecDepth 100000 in
theorem dce_131 : dclOK (11, 56, 125, 0, 0, 865, 866, 867, 68, 868) = true := by decide +kernel
set_option maxRecDepth 100000 in
theorem dce_132 : dclOK (11, 57, 69, 0, 0, 585, 586, 587, 62, 588) = true := by decide +kernel
set_option maxRecDepth 100000 in
theorem dce_133 : dclOK (11, 60, 134, 0, 0, 901, 902, 903, 68, 904) = true := by decide +kernel
set_option maxRecDepth 100000 in
theorem dce_134 : dclOK (11, 61, 71, 0, 0, 593, 594, 595, 62, 596) = true := by decide +kernel
set_option maxRecDepth 100000 in
theorem dce_135 : dclOK (11, 64, 135, 0, 0, 905, 906, 907, 68, 908) = true := by decide +kernel
set_option maxRecDepth 100000 in
theorem dce_136 : dclOK (11, 65, 72, 0, 0, 598, 599, 600, 62, 601) = true := by decide +kernel
set_option maxRecDepth 100000 in
theorem dce_137 : dclOK (11, 68, 136, 0, 0, 909, 910, 911, 68, 912) = true := by decide +kernel
set_option maxRecDepth 100000 in
theorem dce_138 : dclOK (11, 69, 73, 2, 0, 602, 603, 604, 62, 605) = true := by decide +kernel
set_option maxRecDepth 100000 in
theorem dce_139 : dclOK (11, 72, 137, 2, 0, 913, 914, 915, 68, 916) = true := by decide +kernel
set_option maxRecDepth 100000 in
theorem dce_140 : dclOK (11, 73, 75, 2, 0, 610, 611, 612, 62, 613) = true := by decide +kernel
set_option maxRecDepth 100000 in
theorem dce_141 : dclOK (11, 76, 139, 2, 0, 921, 922, 923, 68, 924) = true := by decide +kernel
set_option maxRecDepth 100000 in
theorem dce_142 : dclOK (11, 77, 78, 0, 0, 622, 623, 624, 62, 625) = true := by decide +kernel
set_option maxRecDepth 100000 in
theorem dce_143 : dclOK (11, 80, 140, 0, 0, 925, 926, 927, 68, 928) = true := by decide +kernel
set_option maxRecDepth 100000 in
theorem dce_144 : dclOK (11, 81, 80, 1, 0, 630, 631, 632, 62, 633) = true := by decide +kernel
set_option maxRecDepth 100000 in
theorem dce_145 : dclOK (11, 84, 141, 1, 0, 929, 930, 931, 68, 932) = true := by decide +kernel
set_option maxRecDepth 100000 in
theorem dce_146 : dclOK (11, 85, 81, 2, 0, 636, 637, 638, 62, 639) = true := by decide +kernel
set_option maxRecDepth 100000 in
theorem dce_147 : dclOK (11, 88, 142, 2, 0, 933, 934, 935, 68, 936) = true := by decide +kernel
set_option maxRecDepth 100000 in
theorem dce_148 : dclOK (11, 89, 84, 0, 0, 652, 653, 654, 62, 655) = true := by decide +kernel
set_option maxRecDepth 100000 in
theorem dce_149 : dclOK (11, 92, 144, 0, 0, 941, 942, 943, 68, 944) = true := by decide +kernel
set_option maxRecDepth 100000 in
theorem dce_150 : dclOK (11, 93, 85, 1, 0, 656, 657, 658, 62, 659) = true := by decide +kernel
set_option maxRecDepth 100000 in
theorem dce_151 : dclOK (11, 96, 145, 1, 0, 945, 946, 947, 68, 948) = true := by decide +kernel
set_option maxRecDepth 100000 in
theorem dcl_ok : ∀ e ∈ dcl, dclOK e = true := List.forall_mem_cons.mpr ⟨dce_0, List.forall_mem_cons.mpr ⟨dce_1, List.forall_mem_cons.mpr ⟨dce_2, List.forall_mem_cons.mpr ⟨dce_3, List.forall_mem_cons.mpr ⟨dce_4, List.forall_mem_cons.mpr ⟨dce_5, List.forall_mem_cons.mpr ⟨dce_6, List.forall_mem_cons.mpr ⟨dce_7, List.forall_mem_cons.mpr ⟨dce_8, List.forall_mem_cons.mpr ⟨dce_9, List.forall_mem_cons.mpr ⟨dce_10, List.forall_mem_cons.mpr ⟨dce_11, List.forall_mem_cons.mpr ⟨dce_12, List.forall_mem_cons.mpr ⟨dce_13, List.forall_mem_cons.mpr ⟨dce_14, List.forall_mem_cons.mpr ⟨dce_15, List.forall_mem_cons.mpr ⟨dce_16, List.forall_mem_cons.mpr ⟨dce_17, List.forall_mem_cons.mpr ⟨dce_18, List.forall_mem_cons.mpr ⟨dce_19, List.forall_mem_cons.mpr ⟨dce_20, List.forall_mem_cons.mpr ⟨dce_21, List.forall_mem_cons.mpr ⟨dce_22, List.forall_mem_cons.mpr ⟨dce_23, List.forall_mem_cons.mpr ⟨dce_24, List.forall_mem_cons.mpr ⟨dce_25, List.forall_mem_cons.mpr ⟨dce_26, List.forall_mem_cons.mpr ⟨dce_27, List.forall_mem_cons.mpr ⟨dce_28, List.forall_mem_cons.mpr ⟨dce_29, List.forall_mem_cons.mpr ⟨dce_30, List.forall_mem_cons.mpr ⟨dce_31, List.forall_mem_cons.mpr ⟨dce_32, List.forall_mem_cons.mpr ⟨dce_33, List.forall_mem_cons.mpr ⟨dce_34, List.forall_mem_cons.mpr ⟨dce_35, List.forall_mem_cons.mpr ⟨dce_36, List.forall_mem_cons.mpr ⟨dce_37, List.forall_mem_cons.mpr ⟨dce_38, List.forall_mem_cons.mpr ⟨dce_39, List.forall_mem_cons.mpr ⟨dce_40, List.forall_mem_cons.mpr ⟨dce_41, List.forall_mem_cons.mpr ⟨dce_42, List.forall_mem_cons.mpr ⟨dce_43, List.forall_mem_cons.mpr ⟨dce_44, List.forall_mem_cons.mpr ⟨dce_45, List.forall_mem_cons.mpr ⟨dce_46, List.forall_mem_cons.mpr ⟨dce_47, List.forall_mem_cons.mpr ⟨dce_48, List.forall_mem_cons.mpr ⟨dce_49, List.forall_mem_cons.mpr ⟨dce_50, List.forall_mem_cons.mpr ⟨dce_51, List.forall_mem_cons.mpr ⟨dce_52, List.forall_mem_cons.mpr ⟨dce_53, List.forall_mem_cons.mpr ⟨dce_54, List.forall_mem_cons.mpr ⟨dce_55, List.forall_mem_cons.mpr ⟨dce_56, List.forall_mem_cons.mpr ⟨dce_57, List.forall_mem_cons.mpr ⟨dce_58, List.forall_mem_cons.mpr ⟨dce_59, List.forall_mem_cons.mpr ⟨dce_60, List.forall_mem_cons.mpr ⟨dce_61, List.forall_mem_cons.mpr ⟨dce_62, List.forall_mem_cons.mpr ⟨dce_63, List.forall_mem_cons.mpr ⟨dce_64, List.forall_mem_cons.mpr ⟨dce_65, List.forall_mem_cons.mpr ⟨dce_66, List.forall_mem_cons.mpr ⟨dce_67, List.forall_mem_cons.mpr ⟨dce_68, List.forall_mem_cons.mpr ⟨dce_69, List.forall_mem_cons.mpr ⟨dce_70, List.forall_mem_cons.mpr ⟨dce_71, List.forall_mem_cons.mpr ⟨dce_72, List.forall_mem_cons.mpr ⟨dce_73, List.forall_mem_cons.mpr ⟨dce_74, List.forall_mem_cons.mpr ⟨dce_75, List.forall_mem_cons.mpr ⟨dce_76, List.forall_mem_cons.mpr ⟨dce_77, List.forall_mem_cons.mpr ⟨dce_78, List.forall_mem_cons.mpr ⟨dce_79, List.forall_mem_cons.mpr ⟨dce_80, List.forall_mem_cons.mpr ⟨dce_81, List.forall_mem_cons.mpr ⟨dce_82, List.forall_mem_cons.mpr ⟨dce_83, List.forall_mem_cons.mpr ⟨dce_84, List.forall_mem_cons.mpr ⟨dce_85, List.forall_mem_cons.mpr ⟨dce_86, List.forall_mem_cons.mpr ⟨dce_87, List.forall_mem_cons.mpr ⟨dce_88, List.forall_mem_cons.mpr ⟨dce_89, List.forall_mem_cons.mpr ⟨dce_90, List.forall_mem_cons.mpr ⟨dce_91, List.forall_mem_cons.mpr ⟨dce_92, List.forall_mem_cons.mpr ⟨dce_93, List.forall_mem_cons.mpr ⟨dce_94, List.forall_mem_cons.mpr ⟨dce_95, List.forall_mem_cons.mpr ⟨dce_96, List.forall_mem_cons.mpr ⟨dce_97, List.forall_mem_cons.mpr ⟨dce_98, List.forall_mem_cons.mpr ⟨dce_99, List.forall_mem_cons.mpr ⟨dce_100, List.forall_mem_cons.mpr ⟨dce_101, List.forall_mem_cons.mpr ⟨dce_102, List.forall_mem_cons.mpr ⟨dce_103, List.forall_mem_cons.mpr ⟨dce_104, List.forall_mem_cons.mpr ⟨dce_105, List.forall_mem_cons.mpr ⟨dce_106, List.forall_mem_cons.mpr ⟨dce_107, List.forall_mem_cons.mpr ⟨dce_108, List.forall_mem_cons.mpr ⟨dce_109, List.forall_mem_cons.mpr ⟨dce_110, List.forall_mem_cons.mpr ⟨dce_111, List.forall_mem_cons.mpr ⟨dce_112, List.forall_mem_cons.mpr ⟨dce_113, List.forall_mem_cons.mpr ⟨dce_114, List.forall_mem_cons.mpr ⟨dce_115, List.forall_mem_cons.mpr ⟨dce_116, List.forall_mem_cons.mpr ⟨dce_117, List.forall_mem_cons.mpr ⟨dce_118, List.forall_mem_cons.mpr ⟨dce_119, List.forall_mem_cons.mpr ⟨dce_120, List.forall_mem_cons.mpr ⟨dce_121, List.forall_mem_cons.mpr ⟨dce_122, List.forall_mem_cons.mpr ⟨dce_123, List.forall_mem_cons.mpr ⟨dce_124, List.forall_mem_cons.mpr ⟨dce_125, List.forall_mem_cons.mpr ⟨dce_126, List.forall_mem_cons.mpr ⟨dce_127, List.forall_mem_cons.mpr ⟨dce_128, List.forall_mem_cons.mpr ⟨dce_129, List.forall_mem_cons.mpr ⟨dce_130, List.forall_mem_cons.mpr ⟨dce_131, List.forall_mem_cons.mpr ⟨dce_132, List.forall_mem_cons.mpr ⟨dce_133, List.forall_mem_cons.mpr ⟨dce_134, List.forall_mem_cons.mpr ⟨dce_135, List.forall_mem_cons.mpr ⟨dce_136, List.forall_mem_cons.mpr ⟨dce_137, List.forall_mem_cons.mpr ⟨dce_138, List.forall_mem_cons.mpr ⟨dce_139, List.forall_mem_cons.mpr ⟨dce_140, List.forall_mem_cons.mpr ⟨dce_141, List.forall_mem_cons.mpr ⟨dce_142, List.forall_mem_cons.mpr ⟨dce_143, List.forall_mem_cons.mpr ⟨dce_144, List.forall_mem_cons.mpr ⟨dce_145, List.forall_mem_cons.mpr ⟨dce_146, List.forall_mem_cons.mpr ⟨dce_147, List.forall_mem_cons.mpr ⟨dce_148, List.forall_mem_cons.mpr ⟨dce_149, List.forall_mem_cons.mpr ⟨dce_150, List.forall_mem_cons.mpr ⟨dce_151, fun _ h => absurd h List.not_mem_nil⟩⟩⟩⟩⟩⟩⟩⟩⟩⟩⟩⟩⟩⟩⟩⟩⟩⟩⟩⟩⟩⟩⟩⟩⟩⟩⟩⟩⟩⟩⟩⟩⟩⟩⟩⟩⟩⟩⟩⟩⟩⟩⟩⟩⟩⟩⟩⟩⟩⟩⟩⟩⟩⟩⟩⟩⟩⟩⟩⟩⟩⟩⟩⟩⟩⟩⟩⟩⟩⟩⟩⟩⟩⟩⟩⟩⟩⟩⟩⟩⟩⟩⟩⟩⟩⟩⟩⟩⟩⟩⟩⟩⟩⟩⟩⟩⟩⟩⟩⟩⟩⟩⟩⟩⟩⟩⟩⟩⟩⟩⟩⟩⟩⟩⟩⟩⟩⟩⟩⟩⟩⟩⟩⟩⟩⟩⟩⟩⟩⟩⟩⟩⟩⟩⟩⟩⟩⟩⟩⟩⟩⟩⟩⟩⟩⟩⟩⟩⟩⟩⟩⟩
set_option maxRecDepth 100000 in
theorem dg_0 : dGood dM_0 := ⟨by decide +kernel, ⟨by decide +kernel, by decide +kernel⟩, by decide +kernel, by decide +kernel⟩
set_option maxRecDepth 100000 in
theorem dg_1 : dGood dM_1 := ⟨by decide +kernel, ⟨by decide +kernel, by decide +kernel⟩, by decide +kernel, by decide +kernel⟩
set_option maxRecDepth 100000 in
theorem dg_2 : dGood dM_2 := ⟨by decide +kernel, ⟨by decide +kernel, by decide +kernel⟩, by decide +kernel, by decide +kernel⟩
set_option maxRecDepth 100000 in
theorem dg_3 : dGood dM_3 := ⟨by decide +kernel, ⟨by decide +kernel, by decide +kernel⟩, by decide +kernel, by decide +kernel⟩
set_option maxRecDepth 100000 in
theorem dg_4 : dGood dM_4 := ⟨by decide +kernel, ⟨by decide +kernel, by decide +kernel⟩, by decide +kernel, by decide +kernel⟩
set_option maxRecDepth 100000 in
theorem dg_5 : dGood dM_5 := ⟨by decide +kernel, ⟨by decide +kernel, by decide +kernel⟩, by decide +kernel, by decide +kernel⟩
set_option maxRecDepth 100000 in
theorem dg_6 : dGood dM_6 := ⟨by decide +kernel, ⟨by decide +kernel, by decide +kernel⟩, by decide +kernel, by decide +kernel⟩
set_option maxRecDepth 100000 in
theorem dg_7 : dGood dM_7 := ⟨by decide +kernel, ⟨by decide +kernel, by decide +kernel⟩, by decide +kernel, by decide +kernel⟩
set_option maxRecDepth 100000 in
theorem dg_8 : dGood dM_8 := ⟨by decide +kernel, ⟨by decide +kernel, by decide +kernel⟩, by decide +kernel, by decide +kernel⟩
set_option maxRecDepth 100000 in
theorem dg_9 : dGood dM_9 := ⟨by decide +kernel, ⟨by decide +kernel, by decide +kernel⟩, by decide +kernel, by decide +kernel⟩
set_option maxRecDepth 100000 in
theorem dg_10 : dGood dM_10 := ⟨by decide +kernel, ⟨by decide +kernel, by decide +kernel⟩, by decide +kernel, by decide +kernel⟩
set_option maxRecDepth 100000 in
theorem dg_11 : dGood dM_11 := ⟨by decide +kernel, ⟨by decide +kernel, by decide +kernel⟩, by decide +kernel, by decide +kernel⟩
set_option maxRecDepth 100000 in
theorem dg_12 : dGood dM_12 := ⟨by decide +kernel, ⟨by decide +kernel, by decide +kernel⟩, by decide +kernel, by decide +kernel⟩
set_option maxRecDepth 100000 in
theorem dg_13 : dGood dM_13 := ⟨by decide +kernel, ⟨by decide +kernel, by decide +kernel⟩, by decide +kernel, by decide +kernel⟩
set_option maxRecDepth 100000 in
theorem dg_14 : dGood dM_14 := ⟨by decide +kernel, ⟨by decide +kernel, by decide +kernel⟩, by decide +kernel, by decide +kernel⟩
set_option maxRecDepth 100000 in
theorem dg_15 : dGood dM_15 := ⟨by decide +kernel, ⟨by decide +kernel, by decide +kernel⟩, by decide +kernel, by decide +kernel⟩
set_option maxRecDepth 100000 in
theorem dg_16 : dGood dM_16 := ⟨by decide +kernel, ⟨by decide +kernel, by decide +kernel⟩, by decide +kernel, by decide +kernel⟩
set_option maxRecDepth 100000 in
theorem dg_17 : dGood dM_17 := ⟨by decide +kernel, ⟨by decide +kernel, by decide +kernel⟩, by decide +kernel, by decide +kernel⟩
set_option maxRecDepth 100000 in
theorem dg_18 : dGood dM_18 := ⟨by decide +kernel, ⟨by decide +kernel, by decide +kernel⟩, by decide +kernel, by decide +kernel⟩
set_option maxRecDepth 100000 in
theorem dg_19 : dGood dM_19 := ⟨by decide +kernel, ⟨by decide +kernel, by decide +kernel⟩, by decide +kernel, by decide +kernel⟩
set_option maxRecDepth 100000 in
theorem dg_20 : dGood dM_20 := ⟨by decide +kernel, ⟨by decide +kernel, by decide +kernel⟩, by decide +kernel, by decide +kernel⟩
set_option maxRecDepth 100000 in
theorem dg_21 : dGood dM_21 := ⟨by decide +kernel, ⟨by decide +kernel, by decide +kernel⟩, by decide +kernel, by decide +kernel⟩
set_option maxRecDepth 100000 in
theorem dg_22 : dGood dM_22 := ⟨by decide +kernel, ⟨by decide +kernel, by decide +kernel⟩, by decide +kernel, by decide +kernel⟩
set_option maxRecDepth 100000 in
theorem dg_23 : dGood dM_23 := ⟨by decide +kernel, ⟨by decide +kernel, by decide +kernel⟩, by decide +kernel, by decide +kernel⟩
set_option maxRecDepth 100000 in
theorem dg_24 : dGood dM_24 := ⟨by decide +kernel, ⟨by decide +kernel, by decide +kernel⟩, by decide +kernel, by decide +kernel⟩
set_option maxRecDepth 100000 in
theorem dg_25 : dGood dM_25 := ⟨by decide +kernel, ⟨by decide +kernel, by decide +kernel⟩, by decide +kernel, by decide +kernel⟩
set_option maxRecDepth 100000 in
theorem dg_26 : dGood dM_26 := ⟨by decide +kernel, ⟨by decide +kernel, by decide +kernel⟩, by decide +kernel, by decide +kernel⟩
set_option maxRecDepth 100000 in
theorem dg_27 : dGood dM_27 := ⟨by decide +kernel, ⟨by decide +kernel, by decide +kernel⟩, by decide +kernel, by decide +kernel⟩
set_option maxRecDepth 100000 in
theorem dg_28 : dGood dM_28 := ⟨by decide +kernel, ⟨by decide +kernel, by decide +kernel⟩, by decide +kernel, by decide +kernel⟩
set_option maxRecDepth 100000 in
theorem dg_29 : dGood dM_29 := ⟨by decide +kernel, ⟨by decide +kernel, by decide +kernel⟩, by decide +kernel, by decide +kernel⟩
set_option maxRecDepth 100000 in
theorem dg_30 : dGood dM_30 := ⟨by decide +kernel, ⟨by decide +kernel, by decide +kernel⟩, by decide +kernel, by decide +kernel⟩
set_option maxRecDepth 100000 in
theorem dg_31 : dGood dM_31 := ⟨by decide +kernel, ⟨by decide +kernel, by decide +kernel⟩, by decide +kernel, by decide +kernel⟩
set_option maxRecDepth 100000 in
theorem dg_32 : dGood dM_32 := ⟨by decide +kernel, ⟨by decide +kernel, by decide +kernel⟩, by decide +kernel, by decide +kernel⟩
set_option maxRecDepth 100000 in
theorem dg_33 : dGood dM_33 := ⟨by decide +kernel, ⟨by decide +kernel, by decide +kernel⟩, by decide +kernel, by decide +kernel⟩
set_option maxRecDepth 100000 in
theorem dg_34 : dGood dM_34 := ⟨by decide +kernel, ⟨by decide +kernel, by decide +kernel⟩, by decide +kernel, by decide +kernel⟩
set_option maxRecDepth 100000 in
theorem dg_35 : dGood dM_35 := ⟨by decide +kernel, ⟨by decide +kernel, by decide +kernel⟩, by decide +kernel, by decide +kernel⟩
set_option maxRecDepth 100000 in
theorem dg_36 : dGood dM_36 := ⟨by decide +kernel, ⟨by decide +kernel, by decide +kernel⟩, by decide +kernel, by decide +kernel⟩
set_option maxRecDepth 100000 in
theorem dg_37 : dGood dM_37 := ⟨by decide +kernel, ⟨by decide +kernel, by decide +kernel⟩, by decide +kernel, by decide +kernel⟩
set_option maxRecDepth 100000 in
theorem dg_38 : dGood dM_38 := ⟨by decide +kernel, ⟨by decide +kernel, by decide +kernel⟩, by decide +kernel, by decide +kernel⟩
set_option maxRecDepth 100000 in
theorem dg_39 : dGood dM_39 := ⟨by decide +kernel, ⟨by decide +kernel, by decide +kernel⟩, by decide +kernel, by decide +kernel⟩
set_option maxRecDepth 100000 in
theorem dg_40 : dGood dM_40 := ⟨by decide +kernel, ⟨by decide +kernel, by decide +kernel⟩, by decide +kernel, by decide +kernel⟩
set_option maxRecDepth 100000 in
theorem dg_41 : dGood dM_41 := ⟨by decide +kernel, ⟨by decide +kernel, by decide +kernel⟩, by decide +kernel, by decide +kernel⟩
set_option maxRecDepth 100000 in
theorem dg_42 : dGood dM_42 := ⟨by decide +kernel, ⟨by decide +kernel, by decide +kernel⟩, by decide +kernel, by decide +kernel⟩
set_option maxRecDepth 100000 in
theorem dg_43 : dGood dM_43 := ⟨by decide +kernel, ⟨by decide +kernel, by decide +kernel⟩, by decide +kernel, by decide +kernel⟩
set_option maxRecDepth 100000 in
theorem dg_44 : dGood dM_44 := ⟨by decide +kernel, ⟨by decide +kernel, by decide +kernel⟩, by decide +kernel, by decide +kernel⟩
set_option maxRecDepth 100000 in
theorem dg_45 : dGood dM_45 := ⟨by decide +kernel, ⟨by decide +kernel, by decide +kernel⟩, by decide +kernel, by decide +kernel⟩
set_option maxRecDepth 100000 in
theorem dg_46 : dGood dM_46 := ⟨by decide +kernel, ⟨by decide +kernel, by decide +kernel⟩, by decide +kernel, by decide +kernel⟩
set_option maxRecDepth 100000 in
theorem dg_47 : dGood dM_47 := ⟨by decide +kernel, ⟨by decide +kernel, by decide +kernel⟩, by decide +kernel, by decide +kernel⟩
set_option maxRecDepth 100000 in
theorem dg_48 : dGood dM_48 := ⟨by decide +kernel, ⟨by decide +kernel, by decide +kernel⟩, by decide +kernel, by decide +kernel⟩
set_option maxRecDepth 100000 in
theorem dg_49 : dGood dM_49 := ⟨by decide +kernel, ⟨by decide +kernel, by decide +kernel⟩, by decide +kernel, by decide +kernel⟩
set_option maxRecDepth 100000 in
theorem dg_50 : dGood dM_50 := ⟨by decide +kernel, ⟨by decide +kernel, by decide +kernel⟩, by decide +kernel, by decide +kernel⟩
set_option maxRecDepth 100000 in
theorem dg_51 : dGood dM_51 := ⟨by decide +kernel, ⟨by decide +kernel, by decide +kernel⟩, by decide +kernel, by decide +kernel⟩
set_option maxRecDepth 100000 in
theorem dg_52 : dGood dM_52 := ⟨by decide +kernel, ⟨by decide +kernel, by decide +kernel⟩, by decide +kernel, by decide +kernel⟩
set_option maxRecDepth 100000 in
theorem dg_53 : dGood dM_53 := ⟨by decide +kernel, ⟨by decide +kernel, by decide +kernel⟩, by decide +kernel, by decide +kernel⟩
set_option maxRecDepth 100000 in
theorem dg_54 : dGood dM_54 := ⟨by decide +kernel, ⟨by decide +kernel, by decide +kernel⟩, by decide +kernel, by decide +kernel⟩
set_option maxRecDepth 100000 in
theorem dg_55 : dGood dM_55 := ⟨by decide +kernel, ⟨by decide +kernel, by decide +kernel⟩, by decide +kernel, by decide +kernel⟩
set_option maxRecDepth 100000 in
theorem dg_56 : dGood dM_56 := ⟨by decide +kernel, ⟨by decide +kernel, by decide +kernel⟩, by decide +kernel, by decide +kernel⟩
set_option maxRecDepth 100000 in
theorem dg_57 : dGood dM_57 := ⟨by decide +kernel, ⟨by decide +kernel, by decide +kernel⟩, by decide +kernel, by decide +kernel⟩
set_option maxRecDepth 100000 in
theorem dg_58 : dGood dM_58 := ⟨by decide +kernel, ⟨by decide +kernel, by decide +kernel⟩, by decide +kernel, by decide +kernel⟩
set_option maxRecDepth 100000 in
theorem dg_59 : dGood dM_59 := ⟨by decide +kernel, ⟨by decide +kernel, by decide +kernel⟩, by decide +kernel, by decide +kernel⟩
set_option maxRecDepth 100000 in
theorem dg_60 : dGood dM_60 := ⟨by decide +kernel, ⟨by decide +kernel, by decide +kernel⟩, by decide +kernel, by decide +kernel⟩
set_option maxRecDepth 100000 in
theorem dg_61 : dGood dM_61 := ⟨by decide +kernel, ⟨by decide +kernel, by decide +kernel⟩, by decide +kernel, by decide +kernel⟩
set_option maxRecDepth 100000 in
theorem dg_62 : dGood dM_62 := ⟨by decide +kernel, ⟨by decide +kernel, by decide +kernel⟩, by decide +kernel, by decide +kernel⟩
set_option maxRecDepth 100000 in
theorem dg_63 : dGood dM_63 := ⟨by decide +kernel, ⟨by decide +kernel, by decide +kernel⟩, by decide +kernel, by decide +kernel⟩
set_option maxRecDepth 100000 in
theorem dg_64 : dGood dM_64 := ⟨by decide +kernel, ⟨by decide +kernel, by decide +kernel⟩, by decide +kernel, by decide +kernel⟩
set_option maxRecDepth 100000 in
theorem dg_65 : dGood dM_65 := ⟨by decide +kernel, ⟨by decide +kernel, by decide +kernel⟩, by decide +kernel, by decide +kernel⟩
set_option maxRecDepth 100000 in
theorem dg_66 : dGood dM_66 := ⟨by decide +kernel, ⟨by decide +kernel, by decide +kernel⟩, by decide +kernel, by decide +kernel⟩
set_option maxRecDepth 100000 in
theorem dg_67 : dGood dM_67 := ⟨by decide +kernel, ⟨by decide +kernel, by decide +kernel⟩, by decide +kernel, by decide +kernel⟩
set_option maxRecDepth 100000 in
theorem dg_68 : dGood dM_68 := ⟨by decide +kernel, ⟨by decide +kernel, by decide +kernel⟩, by decide +kernel, by decide +kernel⟩
set_option maxRecDepth 100000 in
theorem dg_69 : dGood dM_69 := ⟨by decide +kernel, ⟨by decide +kernel, by decide +kernel⟩, by decide +kernel, by decide +kernel⟩
set_option maxRecDepth 100000 in
theorem dg_70 : dGood dM_70 := ⟨by decide +kernel, ⟨by decide +kernel, by decide +kernel⟩, by decide +kernel, by decide +kernel⟩
set_option maxRecDepth 100000 in
theorem dg_71 : dGood dM_71 := ⟨by decide +kernel, ⟨by decide +kernel, by decide +kernel⟩, by decide +kernel, by decide +kernel⟩
set_option maxRecDepth 100000 in
theorem dg_72 : dGood dM_72 := ⟨by decide +kernel, ⟨by decide +kernel, by decide +kernel⟩, by decide +kernel, by decide +kernel⟩
set_option maxRecDepth 100000 in
theorem dg_73 : dGood dM_73 := ⟨by decide +kernel, ⟨by decide +kernel, by decide +kernel⟩, by decide +kernel, by decide +kernel⟩
set_option maxRecDepth 100000 in
theorem dg_74 : dGood dM_74 := ⟨by decide +kernel, ⟨by decide +kernel, by decide +kernel⟩, by decide +kernel, by decide +kernel⟩
set_option maxRecDepth 100000 in
theorem dg_75 : dGood dM_75 := ⟨by decide +kernel, ⟨by decide +kernel, by decide +kernel⟩, by decide +kernel, by decide +kernel⟩
set_option maxRecDepth 100000 in
theorem dg_76 : dGood dM_76 := ⟨by decide +kernel, ⟨by decide +kernel, by decide +kernel⟩, by decide +kernel, by decide +kernel⟩
set_option maxRecDepth 100000 in
theorem dg_77 : dGood dM_77 := ⟨by decide +kernel, ⟨by decide +kernel, by decide +kernel⟩, by decide +kernel, by decide +kernel⟩
set_option maxRecDepth 100000 in
theorem dg_78 : dGood dM_78 := ⟨by decide +kernel, ⟨by decide +kernel, by decide +kernel⟩, by decide +kernel, by decide +kernel⟩
set_option maxRecDepth 100000 in
theorem dg_79 : dGood dM_79 := ⟨by decide +kernel, ⟨by decide +kernel, by decide +kernel⟩, by decide +kernel, by decide +kernel⟩
set_option maxRecDepth 100000 in
theorem dg_80 : dGood dM_80 := ⟨by decide +kernel, ⟨by decide +kernel, by decide +kernel⟩, by decide +kernel, by decide +kernel⟩
set_option maxRecDepth 100000 in
theorem dg_81 : dGood dM_81 := ⟨by decide +kernel, ⟨by decide +kernel, by decide +kernel⟩, by decide +kernel, by decide +kernel⟩
set_option maxRecDepth 100000 in
theorem dg_82 : dGood dM_82 := ⟨by decide +kernel, ⟨by decide +kernel, by decide +kernel⟩, by decide +kernel, by decide +kernel⟩
set_option maxRecDepth 100000 in
theorem dg_83 : dGood dM_83 := ⟨by decide +kernel, ⟨by decide +kernel, by decide +kernel⟩, by decide +kernel, by decide +kernel⟩
set_option maxRecDepth 100000 in
theorem dg_84 : dGood dM_84 := ⟨by decide +kernel, ⟨by decide +kernel, by decide +kernel⟩, by decide +kernel, by decide +kernel⟩
set_option maxRecDepth 100000 in
theorem dg_85 : dGood dM_85 := ⟨by decide +kernel, ⟨by decide +kernel, by decide +kernel⟩, by decide +kernel, by decide +kernel⟩
set_option maxRecDepth 100000 in
theorem dg_86 : dGood dM_86 := ⟨by decide +kernel, ⟨by decide +kernel, by decide +kernel⟩, by decide +kernel, by decide +kernel⟩
set_option maxRecDepth 100000 in
theorem dg_87 : dGood dM_87 := ⟨by decide +kernel, ⟨by decide +kernel, by decide +kernel⟩, by decide +kernel, by decide +kernel⟩
set_option maxRecDepth 100000 in
theorem dg_88 : dGood dM_88 := ⟨by decide +kernel, ⟨by decide +kernel, by decide +kernel⟩, by decide +kernel, by decide +kernel⟩
set_option maxRecDepth 100000 in
theorem dg_89 : dGood dM_89 := ⟨by decide +kernel, ⟨by decide +kernel, by decide +kernel⟩, by decide +kernel, by decide +kernel⟩
set_option maxRecDepth 100000 in
theorem dg_90 : dGood dM_90 := ⟨by decide +kernel, ⟨by decide +kernel, by decide +kernel⟩, by decide +kernel, by decide +kernel⟩
set_option maxRecDepth 100000 in
theorem dg_91 : dGood dM_91 := ⟨by decide +kernel, ⟨by decide +kernel, by decide +kernel⟩, by decide +kernel, by decide +kernel⟩
set_option maxRecDepth 100000 in
theorem dg_92 : dGood dM_92 := ⟨by decide +kernel, ⟨by decide +kernel, by decide +kernel⟩, by decide +kernel, by decide +kernel⟩
set_option maxRecDepth 100000 in
theorem dg_93 : dGood dM_93 := ⟨by decide +kernel, ⟨by decide +kernel, by decide +kernel⟩, by decide +kernel, by decide +kernel⟩
set_option maxRecDepth 100000 in
theorem dg_94 : dGood dM_94 := ⟨by decide +kernel, ⟨by decide +kernel, by decide +kernel⟩, by decide +kernel, by decide +kernel⟩
set_option maxRecDepth 100000 in
theorem dg_95 : dGood dM_95 := ⟨by decide +kernel, ⟨by decide +kernel, by decide +kernel⟩, by decide +kernel, by decide +kernel⟩
set_option maxRecDepth 100000 in
theorem dg_96 : dGood dM_96 := ⟨by decide +kernel, ⟨by decide +kernel, by decide +kernel⟩, by decide +kernel, by decide +kernel⟩
set_option maxRecDepth 100000 in
theorem dg_97 : dGood dM_97 := ⟨by decide +kernel, ⟨by decide +kernel, by decide +kernel⟩, by decide +kernel, by decide +kernel⟩
set_option maxRecDepth 100000 in
theorem dg_98 : dGood dM_98 := ⟨by decide +kernel, ⟨by decide +kernel, by decide +kernel⟩, by decide +kernel, by decide +kernel⟩
set_option maxRecDepth 100000 in
theorem dg_99 : dGood dM_99 := ⟨by decide +kernel, ⟨by decide +kernel, by decide +kernel⟩, by decide +kernel, by decide +kernel⟩
set_option maxRecDepth 100000 in
theorem dg_100 : dGood dM_100 := ⟨by decide +kernel, ⟨by decide +kernel, by decide +kernel⟩, by decide +kernel, by decide +kernel⟩
set_option maxRecDepth 100000 in
theorem dg_101 : dGood dM_101 := ⟨by decide +kernel, ⟨by decide +kernel, by decide +kernel⟩, by decide +kernel, by decide +kernel⟩
set_option maxRecDepth 100000 in
theorem dg_102 : dGood dM_102 := ⟨by decide +kernel, ⟨by decide +kernel, by decide +kernel⟩, by decide +kernel, by decide +kernel⟩
set_option maxRecDepth 100000 in
theorem dg_103 : dGood dM_103 := ⟨by decide +kernel, ⟨by decide +kernel, by decide +kernel⟩, by decide +kernel, by decide +kernel⟩
set_option maxRecDepth 100000 in
theorem dg_104 : dGood dM_104 := ⟨by decide +kernel, ⟨by decide +kernel, by decide +kernel⟩, by decide +kernel, by decide +kernel⟩
set_option maxRecDepth 100000 in
theorem dg_105 : dGood dM_105 := ⟨by decide +kernel, ⟨by decide +kernel, by decide +kernel⟩, by decide +kernel, by decide +kernel⟩
set_option maxRecDepth 100000 in
theorem dg_106 : dGood dM_106 := ⟨by decide +kernel, ⟨by decide +kernel, by decide +kernel⟩, by decide +kernel, by decide +kernel⟩
set_option maxRecDepth 100000 in
theorem dg_107 : dGood dM_107 := ⟨by decide +kernel, ⟨by decide +kernel, by decide +kernel⟩, by decide +kernel, by decide +kernel⟩
set_option maxRecDepth 100000 in
theorem dg_108 : dGood dM_108 := ⟨by decide +kernel, ⟨by decide +kernel, by decide +kernel⟩, by decide +kernel, by decide +kernel⟩
set_option maxRecDepth 100000 in
theorem dg_109 : dGood dM_109 := ⟨by decide +kernel, ⟨by decide +kernel, by decide +kernel⟩, by decide +kernel, by decide +kernel⟩
set_option maxRecDepth 100000 in
theorem dg_110 : dGood dM_110 := ⟨by decide +kernel, ⟨by decide +kernel, by decide +kernel⟩, by decide +kernel, by decide +kernel⟩
set_option maxRecDepth 100000 in
theorem dg_111 : dGood dM_111 := ⟨by decide +kernel, ⟨by decide +kernel, by decide +kernel⟩, by decide +kernel, by decide +kernel⟩
set_option maxRecDepth 100000 in
theorem dg_112 : dGood dM_112 := ⟨by decide +kernel, ⟨by decide +kernel, by decide +kernel⟩, by decide +kernel, by decide +kernel⟩
set_option maxRecDepth 100000 in
theorem dg_113 : dGood dM_113 := ⟨by decide +kernel, ⟨by decide +kernel, by decide +kernel⟩, by decide +kernel, by decide +kernel⟩
set_option maxRecDepth 100000 in
theorem dg_114 : dGood dM_114 := ⟨by decide +kernel, ⟨by decide +kernel, by decide +kernel⟩, by decide +kernel, by decide +kernel⟩
set_option maxRecDepth 100000 in
theorem dg_115 : dGood dM_115 := ⟨by decide +kernel, ⟨by decide +kernel, by decide +kernel⟩, by decide +kernel, by decide +kernel⟩
set_option maxRecDepth 100000 in
theorem dg_116 : dGood dM_116 := ⟨by decide +kernel, ⟨by decide +kernel, by decide +kernel⟩, by decide +kernel, by decide +kernel⟩
set_option maxRecDepth 100000 in
theorem dg_117 : dGood dM_117 := ⟨by decide +kernel, ⟨by decide +kernel, by decide +kernel⟩, by decide +kernel, by decide +kernel⟩
set_option maxRecDepth 100000 in
theorem dg_118 : dGood dM_118 := ⟨by decide +kernel, ⟨by decide +kernel, by decide +kernel⟩, by decide +kernel, by decide +kernel⟩
set_option maxRecDepth 100000 in
theorem dg_119 : dGood dM_119 := ⟨by decide +kernel, ⟨by decide +kernel, by decide +kernel⟩, by decide +kernel, by decide +kernel⟩
set_option maxRecDepth 100000 in
theorem dg_120 : dGood dM_120 := ⟨by decide +kernel, ⟨by decide +kernel, by decide +kernel⟩, by decide +kernel, by decide +kernel⟩
set_option maxRecDepth 100000 in
theorem dg_121 : dGood dM_121 := ⟨by decide +kernel, ⟨by decide +kernel, by decide +kernel⟩, by decide +kernel, by decide +kernel⟩
set_option maxRecDepth 100000 in
theorem dg_122 : dGood dM_122 := ⟨by decide +kernel, ⟨by decide +kernel, by decide +kernel⟩, by decide +kernel, by decide +kernel⟩
set_option maxRecDepth 100000 in
theorem dg_123 : dGood dM_123 := ⟨by decide +kernel, ⟨by decide +kernel, by decide +kernel⟩, by decide +kernel, by decide +kernel⟩
set_option maxRecDepth 100000 in
theorem dg_124 : dGood dM_124 := ⟨by decide +kernel, ⟨by decide +kernel, by decide +kernel⟩, by decide +kernel, by decide +kernel⟩
set_option maxRecDepth 100000 in
theorem dg_125 : dGood dM_125 := ⟨by decide +kernel, ⟨by decide +kernel, by decide +kernel⟩, by decide +kernel, by decide +kernel⟩
set_option maxRecDepth 100000 in
theorem dg_126 : dGood dM_126 := ⟨by decide +kernel, ⟨by decide +kernel, by decide +kernel⟩, by decide +kernel, by decide +kernel⟩
set_option maxRecDepth 100000 in
theorem dg_127 : dGood dM_127 := ⟨by decide +kernel, ⟨by decide +kernel, by decide +kernel⟩, by decide +kernel, by decide +kernel⟩
set_option maxRecDepth 100000 in
theorem dg_128 : dGood dM_128 := ⟨by decide +kernel, ⟨by decide +kernel, by decide +kernel⟩, by decide +kernel, by decide +kernel⟩
set_option maxRecDepth 100000 in
theorem dg_129 : dGood dM_129 := ⟨by decide +kernel, ⟨by decide +kernel, by decide +kernel⟩, by decide +kernel, by decide +kernel⟩
set_option maxRecDepth 100000 in
theorem dg_130 : dGood dM_130 := ⟨by decide +kernel, ⟨by decide +kernel, by decide +kernel⟩, by decide +kernel, by decide +kernel⟩
set_option maxRecDepth 100000 in
theorem dg_131 : dGood dM_131 := ⟨by decide +kernel, ⟨by decide +kernel, by decide +kernel⟩, by decide +kernel, by decide +kernel⟩
set_option maxRecDepth 100000 in
theorem dg_132 : dGood dM_132 := ⟨by decide +kernel, ⟨by decide +kernel, by decide +kernel⟩, by decide +kernel, by decide +kernel⟩
set_option maxRecDepth 100000 in
theorem dg_133 : dGood dM_133 := ⟨by decide +kernel, ⟨by decide +kernel, by decide +kernel⟩, by decide +kernel, by decide +kernel⟩
set_option maxRecDepth 100000 in
theorem dg_134 : dGood dM_134 := ⟨by decide +kernel, ⟨by decide +kernel, by decide +kernel⟩, by decide +kernel, by decide +kernel⟩
set_option maxRecDepth 100000 in
theorem dg_135 : dGood dM_135 := ⟨by decide +kernel, ⟨by decide +kernel, by decide +kernel⟩, by decide +kernel, by decide +kernel⟩
set_option maxRecDepth 100000 in
theorem dg_136 : dGood dM_136 := ⟨by decide +kernel, ⟨by decide +kernel, by decide +kernel⟩, by decide +kernel, by decide +kernel⟩
set_option maxRecDepth 100000 in
theorem dg_137 : dGood dM_137 := ⟨by decide +kernel, ⟨by decide +kernel, by decide +kernel⟩, by decide +kernel, by decide +kernel⟩
set_option maxRecDepth 100000 in
theorem dg_138 : dGood dM_138 := ⟨by decide +kernel, ⟨by decide +kernel, by decide +kernel⟩, by decide +kernel, by decide +kernel⟩
set_option maxRecDepth 100000 in
theorem dg_139 : dGood dM_139 := ⟨by decide +kernel, ⟨by decide +kernel, by decide +kernel⟩, by decide +kernel, by decide +kernel⟩
set_option maxRecDepth 100000 in
theorem dg_140 : dGood dM_140 := ⟨by decide +kernel, ⟨by decide +kernel, by decide +kernel⟩, by decide +kernel, by decide +kernel⟩
set_option maxRecDepth 100000 in
theorem dg_141 : dGood dM_141 := ⟨by decide +kernel, ⟨by decide +kernel, by decide +kernel⟩, by decide +kernel, by decide +kernel⟩
set_option maxRecDepth 100000 in
theorem dg_142 : dGood dM_142 := ⟨by decide +kernel, ⟨by decide +kernel, by decide +kernel⟩, by decide +kernel, by decide +kernel⟩
set_option maxRecDepth 100000 in
theorem dg_143 : dGood dM_143 := ⟨by decide +kernel, ⟨by decide +kernel, by decide +kernel⟩, by decide +kernel, by decide +kernel⟩
set_option maxRecDepth 100000 in
theorem dg_144 : dGood dM_144 := ⟨by decide +kernel, ⟨by decide +kernel, by decide +kernel⟩, by decide +kernel, by decide +kernel⟩
set_option maxRecDepth 100000 in
theorem dg_145 : dGood dM_145 := ⟨by decide +kernel, ⟨by decide +kernel, by decide +kernel⟩, by decide +kernel, by decide +kernel⟩
set_option maxRecDepth 100000 in
theorem dg_law : dchk 11 (some .int) code dT_law = true ∧ dchk2 dT_law 4 = true := ⟨by decide +kernel, by decide +kernel⟩
theorem dgs_0 : ∀ q ∈ dms_0, dGood q := List.forall_mem_cons.mpr ⟨dg_0, List.forall_mem_cons.mpr ⟨dg_1, List.forall_mem_cons.mpr ⟨dg_2, List.forall_mem_cons.mpr ⟨dg_3, List.forall_mem_cons.mpr ⟨dg_4, List.forall_mem_cons.mpr ⟨dg_5, List.forall_mem_cons.mpr ⟨dg_6, List.forall_mem_cons.mpr ⟨dg_7, List.forall_mem_cons.mpr ⟨dg_8, List.forall_mem_cons.mpr ⟨dg_9, List.forall_mem_cons.mpr ⟨dg_10, List.forall_mem_cons.mpr ⟨dg_11, List.forall_mem_cons.mpr ⟨dg_12, List.forall_mem_cons.mpr ⟨dg_13, List.forall_mem_cons.mpr ⟨dg_14, List.forall_mem_cons.mpr ⟨dg_15, List.forall_mem_cons.mpr ⟨dg_16, List.forall_mem_cons.mpr ⟨dg_17, List.forall_mem_cons.mpr ⟨dg_18, List.forall_mem_cons.mpr ⟨dg_19, List.forall_mem_cons.mpr ⟨dg_20, List.forall_mem_cons.mpr ⟨dg_21, List.forall_mem_cons.mpr ⟨dg_22, List.forall_mem_cons.mpr ⟨dg_23, List.forall_mem_cons.mpr ⟨dg_24, fun _ h => absurd h List.not_mem_nil⟩⟩⟩⟩⟩⟩⟩⟩⟩⟩⟩⟩⟩⟩⟩⟩⟩⟩⟩⟩⟩⟩⟩⟩⟩
theorem dgs_1 : ∀ q ∈ dms_1, dGood q := List.forall_mem_cons.mpr ⟨dg_25, List.forall_mem_cons.mpr ⟨dg_26, List.forall_mem_cons.mpr ⟨dg_27, List.forall_mem_cons.mpr ⟨dg_28, List.forall_mem_cons.mpr ⟨dg_29, List.forall_mem_cons.mpr ⟨dg_30, List.forall_mem_cons.mpr ⟨dg_31, List.forall_mem_cons.mpr ⟨dg_32, List.forall_mem_cons.mpr ⟨dg_33, List.forall_mem_cons.mpr ⟨dg_34, List.forall_mem_cons.mpr ⟨dg_35, List.forall_mem_cons.mpr ⟨dg_36, List.forall_mem_cons.mpr ⟨dg_37, List.forall_mem_cons.mpr ⟨dg_38, List.forall_mem_cons.mpr ⟨dg_39, List.forall_mem_cons.mpr ⟨dg_40, List.forall_mem_cons.mpr ⟨dg_41, List.forall_mem_cons.mpr ⟨dg_42, List.forall_mem_cons.mpr ⟨dg_43, List.forall_mem_cons.mpr ⟨dg_44, List.forall_mem_cons.mpr ⟨dg_45, List.forall_mem_cons.mpr ⟨dg_46, List.forall_mem_cons.mpr ⟨dg_47, List.forall_mem_cons.mpr ⟨dg_48, List.forall_mem_cons.mpr ⟨dg_49, fun _ h => absurd h List.not_mem_nil⟩⟩⟩⟩⟩⟩⟩⟩⟩⟩⟩⟩⟩⟩⟩⟩⟩⟩⟩⟩⟩⟩⟩⟩⟩
theorem dgs_2 : ∀ q ∈ dms_2, dGood q := List.forall_mem_cons.mpr ⟨dg_50, List.forall_mem_cons.mpr ⟨dg_51, List.forall_mem_cons.mpr ⟨dg_52, List.forall_mem_cons.mpr ⟨dg_53, List.forall_mem_cons.mpr ⟨dg_54, List.forall_mem_cons.mpr ⟨dg_55, List.forall_mem_cons.mpr ⟨dg_56, List.forall_mem_cons.mpr ⟨dg_57, List.forall_mem_cons.mpr ⟨dg_58, List.forall_mem_cons.mpr ⟨dg_59, List.forall_mem_cons.mpr ⟨dg_60, List.forall_mem_cons.mpr ⟨dg_61, List.forall_mem_cons.mpr ⟨dg_62, List.forall_mem_cons.mpr ⟨dg_63, List.forall_mem_cons.mpr ⟨dg_64, List.forall_mem_cons.mpr ⟨dg_65, List.forall_mem_cons.mpr ⟨dg_66, List.forall_mem_cons.mpr ⟨dg_67, List.forall_mem_cons.mpr ⟨dg_68, List.forall_mem_cons.mpr ⟨dg_69, List.forall_mem_cons.mpr ⟨dg_70, List.forall_mem_cons.mpr ⟨dg_71, List.forall_mem_cons.mpr ⟨dg_72, List.forall_mem_cons.mpr ⟨dg_73, List.forall_mem_cons.mpr ⟨dg_74, fun _ h => absurd h List.not_mem_nil⟩⟩⟩⟩⟩⟩⟩⟩⟩⟩⟩⟩⟩⟩⟩⟩⟩⟩⟩⟩⟩⟩⟩⟩⟩
theorem dgs_3 : ∀ q ∈ dms_3, dGood q := List.forall_mem_cons.mpr ⟨dg_75, List.forall_mem_cons.mpr ⟨dg_76, List.forall_mem_cons.mpr ⟨dg_77, List.forall_mem_cons.mpr ⟨dg_78, List.forall_mem_cons.mpr ⟨dg_79, List.forall_mem_cons.mpr ⟨dg_80, List.forall_mem_cons.mpr ⟨dg_81, List.forall_mem_cons.mpr ⟨dg_82, List.forall_mem_cons.mpr ⟨dg_83, List.forall_mem_cons.mpr ⟨dg_84, List.forall_mem_cons.mpr ⟨dg_85, List.forall_mem_cons.mpr ⟨dg_86, List.forall_mem_cons.mpr ⟨dg_87, List.forall_mem_cons.mpr ⟨dg_88, List.forall_mem_cons.mpr ⟨dg_89, List.forall_mem_cons.mpr ⟨dg_90, List.forall_mem_cons.mpr ⟨dg_91, List.forall_mem_cons.mpr ⟨dg_92, List.forall_mem_cons.mpr ⟨dg_93, List.forall_mem_cons.mpr ⟨dg_94, List.forall_mem_cons.mpr ⟨dg_95, List.forall_mem_cons.mpr ⟨dg_96, List.forall_mem_cons.mpr ⟨dg_97, List.forall_mem_cons.mpr ⟨dg_98, List.forall_mem_cons.mpr ⟨dg_99, fun _ h => absurd h List.not_mem_nil⟩⟩⟩⟩⟩⟩⟩⟩⟩⟩⟩⟩⟩⟩⟩⟩⟩⟩⟩⟩⟩⟩⟩⟩⟩
theorem dgs_4 : ∀ q ∈ dms_4, dGood q := List.forall_mem_cons.mpr ⟨dg_100, List.forall_mem_cons.mpr ⟨dg_101, List.forall_mem_cons.mpr ⟨dg_102, List.forall_mem_cons.mpr ⟨dg_103, List.forall_mem_cons.mpr ⟨dg_104, List.forall_mem_cons.mpr ⟨dg_105, List.forall_mem_cons.mpr ⟨dg_106, List.forall_mem_cons.mpr ⟨dg_107, List.forall_mem_cons.mpr ⟨dg_108, List.forall_mem_cons.mpr ⟨dg_109, List.forall_mem_cons.mpr ⟨dg_110, List.forall_mem_cons.mpr ⟨dg_111, List.forall_mem_cons.mpr ⟨dg_112, List.forall_mem_cons.mpr ⟨dg_113, List.forall_mem_cons.mpr ⟨dg_114, List.forall_mem_cons.mpr ⟨dg_115, List.forall_mem_cons.mpr ⟨dg_116, List.forall_mem_cons.mpr ⟨dg_117, List.forall_mem_cons.mpr ⟨dg_118, List.forall_mem_cons.mpr ⟨dg_119, List.forall_mem_cons.mpr ⟨dg_120, List.forall_mem_cons.mpr ⟨dg_121, List.forall_mem_cons.mpr ⟨dg_122, List.forall_mem_cons.mpr ⟨dg_123, List.forall_mem_cons.mpr ⟨dg_124, fun _ h => absurd h List.not_mem_nil⟩⟩⟩⟩⟩⟩⟩⟩⟩⟩⟩⟩⟩⟩⟩⟩⟩⟩⟩⟩⟩⟩⟩⟩⟩
theorem dgs_5 : ∀ q ∈ dms_5, dGood q := List.forall_mem_cons.mpr ⟨dg_125, List.forall_mem_cons.mpr ⟨dg_126, List.forall_mem_cons.mpr ⟨dg_127, List.forall_mem_cons.mpr ⟨dg_128, List.forall_mem_cons.mpr ⟨dg_129, List.forall_mem_cons.mpr ⟨dg_130, List.forall_mem_cons.mpr ⟨dg_131, List.forall_mem_cons.mpr ⟨dg_132, List.forall_mem_cons.mpr ⟨dg_133, List.forall_mem_cons.mpr ⟨dg_134, List.forall_mem_cons.mpr ⟨dg_135, List.forall_mem_cons.mpr ⟨dg_136, List.forall_mem_cons.mpr ⟨dg_137, List.forall_mem_cons.mpr ⟨dg_138, List.forall_mem_cons.mpr ⟨dg_139, List.forall_mem_cons.mpr ⟨dg_140, List.forall_mem_cons.mpr ⟨dg_141, List.forall_mem_cons.mpr ⟨dg_142, List.forall_mem_cons.mpr ⟨dg_143, List.forall_mem_cons.mpr ⟨dg_144, List.forall_mem_cons.mpr ⟨dg_145, fun _ h => absurd h List.not_mem_nil⟩⟩⟩⟩⟩⟩⟩⟩⟩⟩⟩⟩⟩⟩⟩⟩⟩⟩⟩⟩⟩
theorem dgs : ∀ q ∈ dms, dGood q := fun q h => (List.mem_append.mp h).elim (dgs_0 q) ((fun q h => (List.mem_append.mp h).elim (dgs_1 q) ((fun q h => (List.mem_append.mp h).elim (dgs_2 q) ((fun q h => (List.mem_append.mp h).elim (dgs_3 q) ((fun q h => (List.mem_append.mp h).elim (dgs_4 q) ((dgs_5) q)) q)) q)) q)) q)
