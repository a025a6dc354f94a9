/-! links: what the constant pools name, with the places of the words among lw_tbl -/
def don : Nat → String
  | 0 => "DiskDrawer$State"
  | 1 => "DiskDrawer$Disk"
  | 2 => "DiskDrawer$Read"
  | 3 => "DiskDrawer"
  | 4 => "DiskDrawer$Past"
  | 5 => "DiskDrawer$Program"
  | 6 => "DiskDrawerModel"
  | 7 => "java/lang/String"
  | 8 => "java/lang/StringLatin1"
  | 9 => "jdk/internal/util/Preconditions"
  | 10 => "java/lang/Math"
  | _ => "DiskDrawerLaw"
def dfl : List (Nat × Nat × Nat × Nat × Nat) := [(0, 9, 0, 0, 157), (0, 17, 0, 1, 159), (0, 23, 0, 2, 161), (0, 36, 0, 3, 163), (0, 43, 0, 4, 165), (0, 46, 0, 5, 166), (0, 49, 0, 6, 167), (0, 52, 0, 7, 168), (0, 55, 0, 8, 169), (0, 58, 0, 9, 171), (0, 61, 0, 10, 173), (0, 65, 0, 11, 175), (0, 68, 0, 12, 176), (0, 71, 0, 13, 177), (0, 74, 0, 14, 178), (0, 91, 1, 0, 100), (0, 94, 2, 0, 136), (0, 97, 2, 1, 138), (0, 100, 2, 2, 141), (0, 101, 2, 3, 143), (0, 104, 2, 4, 145), (0, 107, 1, 6, 113), (0, 115, 1, 5, 111), (0, 152, 1, 1, 103), (0, 164, 1, 3, 107), (0, 193, 1, 2, 105), (0, 196, 1, 4, 109), (1, 9, 1, 0, 99), (1, 15, 1, 1, 102), (1, 18, 1, 2, 104), (1, 21, 1, 3, 106), (1, 24, 1, 4, 108), (1, 27, 1, 5, 110), (1, 31, 1, 6, 112), (2, 7, 2, 0, 135), (2, 13, 2, 1, 137), (2, 16, 2, 2, 140), (2, 19, 2, 3, 142), (2, 22, 2, 4, 144), (3, 12, 3, 0, 261), (3, 16, 3, 1, 262), (3, 19, 3, 2, 263), (3, 22, 3, 3, 264), (3, 29, 3, 4, 265), (3, 36, 3, 5, 266), (3, 75, 5, 1, 235), (3, 82, 5, 5, 243), (3, 85, 5, 2, 237), (3, 89, 5, 3, 239), (3, 92, 5, 4, 241), (3, 110, 4, 1, 221), (3, 116, 0, 8, 170), (3, 131, 0, 1, 160), (3, 135, 0, 2, 162), (3, 139, 2, 1, 139), (3, 144, 0, 10, 174), (3, 150, 1, 0, 101), (3, 172, 0, 9, 172), (3, 182, 0, 0, 158), (3, 185, 0, 3, 164), (4, 11, 4, 0, 219), (4, 18, 4, 1, 220), (5, 9, 5, 0, 233), (5, 15, 5, 2, 236), (5, 19, 5, 3, 238), (5, 22, 5, 4, 240), (5, 25, 5, 1, 234), (5, 29, 5, 6, 244), (5, 32, 5, 5, 242), (6, 7, 6, 0, 670), (6, 13, 6, 1, 671), (6, 16, 6, 2, 672), (6, 19, 6, 4, 674), (6, 22, 6, 6, 676), (6, 25, 6, 8, 678), (6, 33, 6, 3, 673), (6, 128, 6, 7, 677), (6, 131, 6, 9, 679), (6, 134, 6, 10, 680), (6, 144, 6, 11, 681), (6, 147, 6, 12, 682), (6, 150, 6, 13, 683), (6, 156, 6, 14, 684), (6, 175, 6, 5, 675), (7, 9, 7, 0, 949), (7, 15, 7, 1, 950)]
def dcl : List (Nat × Nat × Nat × Nat × Nat × Nat × Nat × Nat × Nat × Nat) := [(0, 32, 3, 1, 0, 292, 293, 294, 64, 295), (0, 40, 4, 1, 0, 296, 297, 298, 65, 299), (0, 77, 6, 3, 2, 304, 305, 0, 62, 306), (0, 87, 11, 1, 1, 327, 328, 0, 63, 329), (0, 108, 14, 1, 0, 338, 339, 340, 63, 341), (0, 112, 15, 0, 0, 342, 344, 1, 63, 345), (0, 118, 18, 1, 2, 354, 355, 0, 62, 356), (0, 122, 21, 0, 0, 365, 366, 367, 64, 368), (0, 125, 25, 0, 0, 381, 382, 383, 63, 384), (0, 130, 29, 0, 0, 398, 399, 400, 63, 401), (0, 133, 30, 0, 0, 402, 404, 3, 63, 405), (0, 136, 31, 0, 0, 407, 409, 4, 63, 410), (0, 139, 35, 0, 0, 423, 425, 6, 63, 426), (0, 142, 37, 1, 0, 431, 433, 8, 63, 434), (0, 146, 42, 0, 0, 451, 453, 12, 63, 454), (0, 149, 22, 0, 0, 406, 370, 371, 64, 372), (0, 155, 32, 0, 0, 411, 412, 413, 64, 414), (0, 158, 33, 1, 0, 415, 417, 5, 63, 418), (0, 161, 34, 0, 0, 419, 420, 421, 64, 422), (0, 167, 36, 1, 0, 427, 429, 7, 63, 430), (0, 170, 38, 1, 0, 435, 437, 9, 63, 438), (0, 173, 39, 2, 0, 439, 441, 10, 63, 442), (0, 177, 41, 1, 0, 447, 448, 449, 64, 450), (0, 180, 40, 0, 0, 443, 445, 11, 63, 446), (0, 189, 26, 1, 0, 385, 387, 2, 63, 388), (0, 197, 77, 1, 0, 618, 620, 24, 63, 621), (1, 34, 22, 0, 0, 369, 370, 371, 64, 372), (3, 40, 1, 1, 0, 284, 285, 286, 66, 287), (3, 44, 5, 2, 0, 300, 301, 302, 63, 303), (3, 48, 7, 1, 0, 311, 312, 313, 66, 314), (3, 52, 10, 2, 0, 323, 324, 325, 63, 326), (3, 55, 13, 1, 0, 334, 335, 336, 63, 337), (3, 58, 17, 1, 0, 350, 351, 352, 63, 353), (3, 61, 20, 1, 0, 361, 362, 363, 63, 364), (3, 64, 24, 0, 0, 377, 378, 379, 63, 380), (3, 68, 28, 1, 0, 393, 394, 395, 63, 396), (3, 71, 44, 1, 0, 462, 463, 464, 67, 465), (3, 79, 47, 0, 0, 474, 475, 476, 67, 477), (3, 95, 66, 3, 0, 573, 575, 23, 62, 576), (3, 99, 67, 1, 1, 577, 578, 0, 62, 579), (3, 103, 68, 1, 0, 580, 581, 582, 66, 583), (3, 106, 70, 1, 0, 589, 590, 591, 66, 592), (3, 113, 2, 1, 0, 597, 289, 290, 63, 291), (3, 119, 74, 2, 0, 606, 607, 608, 63, 609), (3, 122, 76, 2, 0, 614, 615, 616, 63, 617), (3, 125, 79, 0, 0, 626, 627, 628, 63, 629), (3, 128, 14, 1, 0, 634, 339, 340, 63, 341), (3, 147, 29, 0, 0, 635, 399, 400, 63, 401), (3, 161, 6, 3, 1, 642, 305, 0, 62, 306), (3, 165, 82, 2, 0, 643, 645, 25, 62, 646), (3, 168, 83, 1, 0, 647, 649, 26, 62, 650), (3, 175, 18, 1, 1, 651, 355, 0, 62, 356), (3, 179, 86, 1, 0, 660, 661, 662, 63, 663), (4, 22, 2, 1, 0, 288, 289, 290, 63, 291), (4, 26, 8, 0, 0, 315, 317, 0, 66, 318), (5, 35, 48, 1, 0, 478, 480, 13, 67, 481), (5, 39, 62, 1, 0, 557, 559, 19, 67, 560), (5, 43, 49, 0, 0, 482, 484, 14, 67, 485), (5, 47, 60, 3, 0, 549, 551, 17, 67, 552), (5, 51, 65, 3, 0, 569, 571, 22, 67, 572), (5, 54, 61, 2, 0, 553, 555, 18, 67, 556), (5, 58, 63, 2, 0, 561, 563, 20, 67, 564), (5, 61, 50, 1, 1, 486, 487, 0, 67, 488), (5, 65, 51, 1, 0, 493, 495, 15, 67, 496), (5, 69, 52, 0, 0, 497, 498, 499, 70, 500), (5, 73, 54, 1, 0, 507, 508, 509, 70, 510), (5, 77, 59, 2, 0, 545, 547, 16, 67, 548), (5, 89, 64, 0, 0, 565, 567, 21, 67, 568), (6, 29, 88, 3, 1, 721, 722, 0, 68, 723), (6, 37, 96, 2, 1, 749, 750, 0, 68, 751), (6, 41, 94, 2, 1, 742, 743, 0, 68, 744), (6, 44, 109, 1, 0, 800, 802, 38, 68, 803), (6, 48, 108, 1, 0, 796, 798, 37, 68, 799), (6, 51, 115, 1, 0, 825, 827, 43, 68, 828), (6, 55, 104, 1, 0, 780, 782, 34, 68, 783), (6, 58, 99, 1, 0, 760, 762, 31, 68, 763), (6, 61, 118, 1, 0, 837, 839, 46, 68, 840), (6, 64, 117, 1, 0, 833, 835, 45, 68, 836), (6, 67, 121, 1, 0, 849, 851, 49, 68, 852), (6, 70, 107, 0, 0, 792, 794, 36, 68, 795), (6, 74, 114, 0, 0, 821, 823, 42, 68, 824), (6, 77, 116, 0, 0, 829, 831, 44, 68, 832), (6, 80, 119, 0, 0, 841, 843, 47, 68, 844), (6, 83, 120, 0, 0, 845, 847, 48, 68, 848), (6, 86, 122, 0, 0, 853, 855, 50, 68, 856), (6, 89, 93, 1, 1, 739, 740, 0, 68, 741), (6, 94, 113, 0, 0, 817, 819, 41, 68, 820), (6, 97, 89, 2, 1, 724, 725, 0, 68, 726), (6, 101, 90, 0, 0, 727, 729, 27, 68, 730), (6, 104, 92, 2, 0, 735, 737, 28, 68, 738), (6, 107, 95, 2, 0, 745, 747, 29, 68, 748), (6, 110, 98, 1, 0, 756, 758, 30, 68, 759), (6, 113, 101, 1, 0, 768, 770, 32, 68, 771), (6, 116, 102, 1, 0, 772, 774, 33, 68, 775), (6, 119, 106, 0, 0, 788, 790, 35, 68, 791), (6, 122, 111, 1, 0, 808, 810, 39, 68, 811), (6, 125, 112, 1, 0, 813, 815, 40, 68, 816), (6, 138, 129, 2, 0, 881, 883, 54, 68, 884), (6, 141, 128, 1, 0, 877, 879, 53, 68, 880), (6, 153, 130, 2, 0, 885, 887, 55, 68, 888), (6, 159, 127, 0, 0, 873, 875, 52, 68, 876), (6, 162, 131, 0, 0, 889, 891, 56, 68, 892), (6, 165, 126, 1, 0, 869, 871, 51, 68, 872), (6, 169, 132, 0, 0, 893, 895, 57, 68, 896), (6, 172, 133, 0, 0, 897, 899, 58, 68, 900), (6, 178, 138, 2, 0, 917, 919, 59, 68, 920), (6, 181, 143, 2, 0, 937, 939, 60, 68, 940), (7, 335, 53, 0, 0, 501, 502, 503, 70, 504), (7, 492, 55, 0, 0, 511, 512, 513, 70, 514), (7, 495, 56, 2, 1, 515, 516, 0, 71, 517), (7, 1059, 58, 3, 1, 523, 524, 0, 72, 525), (8, 9, 57, 2, 1, 518, 519, 0, 70, 520), (11, 13, 0, 2, 0, 280, 281, 282, 62, 283), (11, 17, 87, 2, 0, 717, 718, 719, 68, 720), (11, 18, 9, 2, 0, 319, 320, 321, 62, 322), (11, 21, 91, 2, 0, 731, 732, 733, 68, 734), (11, 22, 12, 1, 0, 330, 331, 332, 62, 333), (11, 26, 97, 1, 0, 752, 753, 754, 68, 755), (11, 27, 16, 1, 0, 346, 347, 348, 62, 349), (11, 30, 100, 1, 0, 764, 765, 766, 68, 767), (11, 31, 19, 1, 0, 357, 358, 359, 62, 360), (11, 34, 103, 1, 0, 776, 777, 778, 68, 779), (11, 35, 23, 0, 0, 373, 374, 375, 62, 376), (11, 39, 105, 0, 0, 784, 785, 786, 68, 787), (11, 40, 27, 1, 0, 389, 390, 391, 62, 392), (11, 43, 110, 1, 0, 804, 805, 806, 68, 807), (11, 44, 43, 1, 0, 458, 459, 460, 62, 461), (11, 48, 123, 1, 0, 857, 858, 859, 68, 860), (11, 49, 45, 0, 0, 466, 467, 468, 62, 469), (11, 52, 124, 0, 0, 861, 862, 863, 68, 864), (11, 53, 46, 0, 0, 470, 471, 472, 62, 473), (11, 56, 125, 0, 0, 865, 866, 867, 68, 868), (11, 57, 69, 0, 0, 585, 586, 587, 62, 588), (11, 60, 134, 0, 0, 901, 902, 903, 68, 904), (11, 61, 71, 0, 0, 593, 594, 595, 62, 596), (11, 64, 135, 0, 0, 905, 906, 907, 68, 908), (11, 65, 72, 0, 0, 598, 599, 600, 62, 601), (11, 68, 136, 0, 0, 909, 910, 911, 68, 912), (11, 69, 73, 2, 0, 602, 603, 604, 62, 605), (11, 72, 137, 2, 0, 913, 914, 915, 68, 916), (11, 73, 75, 2, 0, 610, 611, 612, 62, 613), (11, 76, 139, 2, 0, 921, 922, 923, 68, 924), (11, 77, 78, 0, 0, 622, 623, 624, 62, 625), (11, 80, 140, 0, 0, 925, 926, 927, 68, 928), (11, 81, 80, 1, 0, 630, 631, 632, 62, 633), (11, 84, 141, 1, 0, 929, 930, 931, 68, 932), (11, 85, 81, 2, 0, 636, 637, 638, 62, 639), (11, 88, 142, 2, 0, 933, 934, 935, 68, 936), (11, 89, 84, 0, 0, 652, 653, 654, 62, 655), (11, 92, 144, 0, 0, 941, 942, 943, 68, 944), (11, 93, 85, 1, 0, 656, 657, 658, 62, 659), (11, 96, 145, 1, 0, 945, 946, 947, 68, 948)]
def dTX0 : u_T := fun k => match k with
  | 0 => ("DiskDrawer$State", "numbers", "[I", true)
  | 1 => ("DiskDrawer$State", "disks", "[LDiskDrawer$Disk;", true)
  | 2 => ("DiskDrawer$State", "reads", "[LDiskDrawer$Read;", true)
  | 3 => ("DiskDrawer$State", "readCount", "I", false)
  | 4 => ("DiskDrawer$State", "readsSoFar", "I", false)
  | 5 => ("DiskDrawer$State", "answered", "I", false)
  | 6 => ("DiskDrawer$State", "lost", "I", false)
  | 7 => ("DiskDrawer$State", "waited", "I", false)
  | 8 => ("DiskDrawer$State", "ticks", "I", false)
  | 9 => ("DiskDrawer$State", "peak", "I", false)
  | 10 => ("DiskDrawer$State", "blown", "Z", false)
  | 11 => ("DiskDrawer$State", "hot", "I", false)
  | 12 => ("DiskDrawer$State", "fusesBlown", "I", false)
  | 13 => ("DiskDrawer$State", "starts", "I", false)
  | _ => ("DiskDrawer$State", "failedStarts", "I", false)
def dTY0 : Nat → FieldType := fun k => match k with
  | 0 => .array .int
  | 1 => .array (.object "DiskDrawer$Disk")
  | 2 => .array (.object "DiskDrawer$Read")
  | 3 => .int
  | 4 => .int
  | 5 => .int
  | 6 => .int
  | 7 => .int
  | 8 => .int
  | 9 => .int
  | 10 => .boolean
  | 11 => .int
  | 12 => .int
  | 13 => .int
  | _ => .int
def dTX1 : u_T := fun k => match k with
  | 0 => ("DiskDrawer$Disk", "doing", "I", false)
  | 1 => ("DiskDrawer$Disk", "startLeft", "I", false)
  | 2 => ("DiskDrawer$Disk", "failures", "I", false)
  | 3 => ("DiskDrawer$Disk", "idle", "I", false)
  | 4 => ("DiskDrawer$Disk", "starts", "I", false)
  | 5 => ("DiskDrawer$Disk", "faultPlanned", "Z", false)
  | _ => ("DiskDrawer$Disk", "readCount", "I", false)
def dTY1 : Nat → FieldType := fun k => match k with
  | 0 => .int
  | 1 => .int
  | 2 => .int
  | 3 => .int
  | 4 => .int
  | 5 => .boolean
  | _ => .int
def dTX2 : u_T := fun k => match k with
  | 0 => ("DiskDrawer$Read", "number", "I", false)
  | 1 => ("DiskDrawer$Read", "disk", "I", false)
  | 2 => ("DiskDrawer$Read", "ticks", "I", false)
  | 3 => ("DiskDrawer$Read", "left", "I", false)
  | _ => ("DiskDrawer$Read", "askedAt", "I", false)
def dTY2 : Nat → FieldType := fun k => match k with
  | 0 => .int
  | 1 => .int
  | 2 => .int
  | 3 => .int
  | _ => .int
def dTX3 : u_T := fun k => match k with
  | 0 => ("DiskDrawer", "now", "LDiskDrawer$State;", true)
  | 1 => ("DiskDrawer", "trial", "LDiskDrawer$State;", true)
  | 2 => ("DiskDrawer", "snapshot", "LDiskDrawer$State;", true)
  | 3 => ("DiskDrawer", "hasSnapshot", "Z", false)
  | 4 => ("DiskDrawer", "past", "LDiskDrawer$Past;", true)
  | _ => ("DiskDrawer", "program", "LDiskDrawer$Program;", true)
def dTY3 : Nat → FieldType := fun k => match k with
  | 0 => .object "DiskDrawer$State"
  | 1 => .object "DiskDrawer$State"
  | 2 => .object "DiskDrawer$State"
  | 3 => .boolean
  | 4 => .object "DiskDrawer$Past"
  | _ => .object "DiskDrawer$Program"
def dTX4 : u_T := fun k => match k with
  | 0 => ("DiskDrawer$Past", "rows", "[LDiskDrawer$State;", true)
  | _ => ("DiskDrawer$Past", "size", "I", false)
def dTY4 : Nat → FieldType := fun k => match k with
  | 0 => .array (.object "DiskDrawer$State")
  | _ => .int
def dTX5 : u_T := fun k => match k with
  | 0 => ("DiskDrawer$Program", "text", "[C", true)
  | 1 => ("DiskDrawer$Program", "length", "I", false)
  | 2 => ("DiskDrawer$Program", "kinds", "[I", true)
  | 3 => ("DiskDrawer$Program", "firsts", "[I", true)
  | 4 => ("DiskDrawer$Program", "seconds", "[I", true)
  | 5 => ("DiskDrawer$Program", "commands", "I", false)
  | _ => ("DiskDrawer$Program", "at", "I", false)
def dTY5 : Nat → FieldType := fun k => match k with
  | 0 => .array .char
  | 1 => .int
  | 2 => .array .int
  | 3 => .array .int
  | 4 => .array .int
  | 5 => .int
  | _ => .int
def dTX6 : u_T := fun k => match k with
  | 0 => ("DiskDrawerModel", "s", "[I", true)
  | 1 => ("DiskDrawerModel", "aside", "[I", true)
  | 2 => ("DiskDrawerModel", "before", "[I", true)
  | 3 => ("DiskDrawerModel", "known", "I", false)
  | 4 => ("DiskDrawerModel", "kept", "[I", true)
  | 5 => ("DiskDrawerModel", "isKept", "Z", false)
  | 6 => ("DiskDrawerModel", "text", "[I", true)
  | 7 => ("DiskDrawerModel", "typed", "I", false)
  | 8 => ("DiskDrawerModel", "hasFailed", "[Z", true)
  | 9 => ("DiskDrawerModel", "at", "I", false)
  | 10 => ("DiskDrawerModel", "isWrong", "Z", false)
  | 11 => ("DiskDrawerModel", "kind", "I", false)
  | 12 => ("DiskDrawerModel", "one", "I", false)
  | 13 => ("DiskDrawerModel", "two", "I", false)
  | _ => ("DiskDrawerModel", "fault", "I", false)
def dTY6 : Nat → FieldType := fun k => match k with
  | 0 => .array .int
  | 1 => .array .int
  | 2 => .array .int
  | 3 => .int
  | 4 => .array .int
  | 5 => .boolean
  | 6 => .array .int
  | 7 => .int
  | 8 => .array .boolean
  | 9 => .int
  | 10 => .boolean
  | 11 => .int
  | 12 => .int
  | 13 => .int
  | _ => .int
def dclasses : List vw_C := [("DiskDrawer$State", dTX0, 15), ("DiskDrawer$Disk", dTX1, 7), ("DiskDrawer$Read", dTX2, 5), ("DiskDrawer", dTX3, 6), ("DiskDrawer$Past", dTX4, 2), ("DiskDrawer$Program", dTX5, 7), ("DiskDrawerModel", dTX6, 15)]
def dnf : Nat → Nat
  | 0 => 15
  | 1 => 7
  | 2 => 5
  | 3 => 6
  | 4 => 2
  | 5 => 7
  | 6 => 15
  | _ => 0
def dTX : Nat → u_T
  | 0 => dTX0
  | 1 => dTX1
  | 2 => dTX2
  | 3 => dTX3
  | 4 => dTX4
  | 5 => dTX5
  | _ => dTX6
def dTY : Nat → Nat → FieldType
  | 0 => dTY0
  | 1 => dTY1
  | 2 => dTY2
  | 3 => dTY3
  | 4 => dTY4
  | 5 => dTY5
  | _ => dTY6
def dfld (o x : Nat) : Option (Nat × Nat) := (dfl.find? (fun e => Nat.beq e.1 o && Nat.beq e.2.1 x)).map (fun e => (e.2.2.1, e.2.2.2.1))
def dfz (ci k : Nat) : Bool := (Nat.beq ci 0 && Nat.beq k 10) || (Nat.beq ci 1 && Nat.beq k 5) || (Nat.beq ci 3 && Nat.beq k 3) || (Nat.beq ci 6 && (Nat.beq k 5 || Nat.beq k 10))
def dcal (o x : Nat) : Option (Nat × Nat × Nat) := (dcl.find? (fun e => Nat.beq e.1 o && Nat.beq e.2.1 x)).map (fun e => (e.2.2.1, e.2.2.2.1, e.2.2.2.2.1))
def dgst (o x nx : Nat) : Option DOp := match o, x with
  | 3, 155 => some (8, 32, 1, nx, 0, [])
  | 3, 158 => some (8, 32, 2, nx, 0, [])
  | 0, 81 => some (8, 32, 1, nx, 0, [])
  | 0, 84 => some (8, 32, 2, nx, 0, [])
  | 7, 38 => some (0, 0, 0, nx, 1, [])
  | 7, 1053 => some (8, 33, 0, nx, 0, [])
  | _, _ => none
def dldc (o x nx : Nat) : Option DOp := match o, x with
  | 0, 129 => some (0, 0, 0, nx, 99999, [])
  | 6, 93 => some (0, 0, 0, nx, 99999, [])
  | 5, 81 => some (8, 30, 0, nx, 0, [])
  | 5, 83 => some (8, 30, 1, nx, 0, [])
  | 5, 85 => some (8, 30, 2, nx, 0, [])
  | 5, 87 => some (8, 30, 3, nx, 0, [])
  | _, _ => none
def dcnd : Jvm.ClassFile.Cond → Nat
  | .eq => 0 | .ne => 1 | .lt => 2 | .ge => 3 | .gt => 4 | .le => 5
def dtgt (pc : Nat) (off : Int) : Option Nat := if 0 ≤ (pc : Int) + off then some ((pc : Int) + off).toNat else none
def dtgts (pc : Nat) : List Int → Option (List Nat)
  | [] => some []
  | o :: os => match dtgt pc o, dtgts pc os with
    | some t, some ts => some (t :: ts)
    | _, _ => none
/-- an instruction of a method of class o as one of the abstract machine -/
def denc (o : Nat) (rt : Option FieldType) (pc : Nat) (i : Instr) (len : Nat) : Option DOp := match i, len with
  | .iconst n, 1 => some (0, 0, 0, pc + 1, Int32.ofInt n, [])
  | .bipush n, 2 => some (0, 0, 0, pc + 2, (Int8.ofInt n).toInt32, [])
  | .sipush n, 3 => some (0, 0, 0, pc + 3, (Int16.ofInt n).toInt32, [])
  | .ldc x, 2 => dldc o x (pc + 2)
  | .iload_n k, 1 => some (1, k.val, 0, pc + 1, 0, [])
  | .iload k, 2 => some (1, k, 0, pc + 2, 0, [])
  | .aload_n k, 1 => some (2, k.val, 0, pc + 1, 0, [])
  | .aload k, 2 => some (2, k, 0, pc + 2, 0, [])
  | .istore_n k, 1 => some (3, k.val, 0, pc + 1, 0, [])
  | .istore k, 2 => some (3, k, 0, pc + 2, 0, [])
  | .astore_n k, 1 => some (4, k.val, 0, pc + 1, 0, [])
  | .astore k, 2 => some (4, k, 0, pc + 2, 0, [])
  | .getfield x, 3 => match dfld o x with
    | some (ci, k) => some (5, ci, k, pc + 3, 0, [])
    | none => none
  | .putfield x, 3 => match dfld o x with
    | some (ci, k) => bif dfz ci k then some (7, ci, k, pc + 3, 0, []) else some (6, ci, k, pc + 3, 0, [])
    | none => none
  | .getstatic x, 3 => dgst o x (pc + 3)
  | .iaload, 1 => some (10, 0, 0, pc + 1, 0, [])
  | .iastore, 1 => some (11, 0, 0, pc + 1, 0, [])
  | .aaload, 1 => some (12, 0, 0, pc + 1, 0, [])
  | .aastore, 1 => some (13, 0, 0, pc + 1, 0, [])
  | .caload, 1 => some (14, 0, 0, pc + 1, 0, [])
  | .castore, 1 => some (15, 0, 0, pc + 1, 0, [])
  | .baload, 1 => some (16, 0, 0, pc + 1, 0, [])
  | .bastore, 1 => some (17, 0, 0, pc + 1, 0, [])
  | .arraylength, 1 => some (18, 0, 0, pc + 1, 0, [])
  | .iadd, 1 => some (19, 0, 0, pc + 1, 0, [])
  | .isub, 1 => some (20, 0, 0, pc + 1, 0, [])
  | .imul, 1 => some (21, 0, 0, pc + 1, 0, [])
  | .iand, 1 => some (22, 0, 0, pc + 1, 0, [])
  | .ior, 1 => some (23, 0, 0, pc + 1, 0, [])
  | .ishl, 1 => some (24, 0, 0, pc + 1, 0, [])
  | .ishr, 1 => some (41, 0, 0, pc + 1, 0, [])
  | .iinc k n, 3 => some (25, k, 0, pc + 3, Int32.ofInt n, [])
  | .ifCond c off, 3 => match dtgt pc off with
    | some t => some (26, t, dcnd c, pc + 3, 0, [])
    | none => none
  | .if_icmp c off, 3 => match dtgt pc off with
    | some t => some (27, t, dcnd c, pc + 3, 0, [])
    | none => none
  | .goto off, 3 => match dtgt pc off with
    | some t => some (28, t, 0, pc + 3, 0, [])
    | none => none
  | .tableswitch d lo hi offs, n => match dtgt pc d, dtgts pc offs.toList with
    | some t, some ts => bif decide (0 ≤ lo) && decide (hi < 1000) && decide ((ts.length : Int) = hi - lo + 1) && decide (offs.size = ts.length) then some (29, t, 0, pc + n, Int32.ofInt lo, ts) else none
    | _, _ => none
  | .dup, 1 => some (30, 0, 0, pc + 1, 0, [])
  | .dup2, 1 => some (31, 0, 0, pc + 1, 0, [])
  | .i2c, 1 => some (32, 0, 0, pc + 1, 0, [])
  | .pop, 1 => some (33, 0, 0, pc + 1, 0, [])
  | .invokevirtual x, 3 => match dcal o x with
    | some (mid, n, 0) => match dms[mid]? with
      | some q => some (34, mid, n, pc + 3, 0, [q.2.2.2.2.1])
      | none => none
    | _ => none
  | .invokestatic x, 3 => bif Nat.beq o 0 && Nat.beq x 183 then some (45, 0, 0, pc + 3, 0, []) else match dcal o x with
    | some (_, _, 0) => none
    | some (mid, n, _) => some (35, mid, n, pc + 3, 0, [])
    | none => none
  | .ireturn, 1 => match rt with
    | some .int => some (36, 0, 0, pc + 1, 0, [])
    | some .boolean => some (42, 0, 0, pc + 1, 0, [])
    | some .char => some (43, 0, 0, pc + 1, 0, [])
    | some .byte => some (44, 0, 0, pc + 1, 0, [])
    | _ => none
  | .return_, 1 => some (37, 0, 0, pc + 1, 0, [])
  | .areturn, 1 => some (38, 0, 0, pc + 1, 0, [])
  | _, _ => none
def deq (a b : DOp) : Bool := decide (a.1 = b.1) && decide (a.2.1 = b.2.1) && decide (a.2.2.1 = b.2.2.1) && decide (a.2.2.2.1 = b.2.2.2.1) && decide (a.2.2.2.2.1 = b.2.2.2.2.1) && decide (a.2.2.2.2.2 = b.2.2.2.2.2)
theorem deq_eq {a b : DOp} (h : deq a b = true) : a = b := by
  obtain ⟨a1, a2, a3, a4, a5, a6⟩ := a
  obtain ⟨b1, b2, b3, b4, b5, b6⟩ := b
  simp only [deq, Bool.and_eq_true, decide_eq_true_eq] at h
  obtain ⟨⟨⟨⟨⟨h1, h2⟩, h3⟩, h4⟩, h5⟩, h6⟩ := h
  rw [h1, h2, h3, h4, h5, h6]
def dchk (o : Nat) (rt : Option FieldType) (c : ByteArray) (T : DTbl) : Bool := (List.range T.length).all fun pc => match T.getD pc none with
  | none => true
  | some q => match decode c pc with
    | .ok (i, len) => match denc o rt pc i len with
      | some q' => deq q' q
      | none => false
    | .error _ => false
def dchk2 (T : DTbl) (n : Nat) : Bool := T.all fun o => match o with
  | some (3, a, _) => decide (a < n)
  | some (4, a, _) => decide (a < n)
  | some (25, a, _) => decide (a < n)
  | _ => true
def dGood (q : DM) : Prop := plainName q.1.cls = true ∧ (q.2.2.1 ≤ 21 ∧ dchk2 q.2.2.2.2.2 q.2.2.1 = true) ∧ q.1.cls = don q.2.2.2.2.1 ∧ dchk q.2.2.2.2.1 q.2.2.2.1 q.2.1 q.2.2.2.2.2 = true
def dWd : List Cond := lw_tbl.filter goodWord
theorem dWd_of {i : Nat} {w : Cond} (h : lw_tbl[i]? = some w) (g : goodWord w = true) : w ∈ dWd := List.mem_filter.mpr ⟨List.mem_of_getElem? h, g⟩
theorem dWd_good : GoodIn lw_tbl dWd := fun w h => ⟨(List.mem_filter.mp h).1, good_of_word (List.mem_filter.mp h).2⟩
theorem dWd_cons (c : Cond) : GoodIn (c :: dWd) dWd := fun w h => ⟨List.mem_cons_of_mem _ h, good_of_word (List.mem_filter.mp h).2⟩
def dflOK (e : Nat × Nat × Nat × Nat × Nat) : Bool := decide (lw_tbl[e.2.2.2.2]? = some (.fieldLink (don e.1) e.2.1 (if e.2.2.1 = 7 then "java/lang/String" else (dTX e.2.2.1 e.2.2.2.1).1) (if e.2.2.1 = 7 then (if e.2.2.2.1 = 0 then "value" else "coder") else (dTX e.2.2.1 e.2.2.2.1).2.1) (if e.2.2.1 = 7 then (if e.2.2.2.1 = 0 then "[B" else "B") else (dTX e.2.2.1 e.2.2.2.1).2.2.1))) && (decide (e.2.2.2.1 < dnf e.2.2.1) || decide (e.2.2.1 = 7 ∧ e.2.2.2.1 < 2)) && decide (e.2.2.1 ≤ 7)
def dclOK (e : Nat × Nat × Nat × Nat × Nat × Nat × Nat × Nat × Nat × Nat) : Bool := match dms[e.2.2.1]? with
  | none => false
  | some q => match e with
    | (o, x, _, n, kd, p0, p1, p2, p3, p4) =>
      decide (q.1.cls ≠ "java/lang/invoke/MethodHandle" ∧ q.1.cls ≠ "java/lang/invoke/VarHandle" ∧ (parseMethodDescriptor q.1.desc).map (fun d => d.parameters.length) = some n) && decide (lw_tbl[p3]? = some (.initialized q.1.cls)) && decide (lw_tbl[p4]? = some (.code q.1 q.2.1 q.2.2.1 q.2.2.2.1)) &&
      (match kd with
      | 0 => decide (lw_tbl[p0]? = some (.methodLink (don o) x q.1)) && decide (lw_tbl[p1]? = some (.instanceMethod q.1)) && decide (lw_tbl[p2]? = some (.selects q.1.cls q.1 q.1))
      | 1 => decide (lw_tbl[p0]? = some (.methodLink (don o) x q.1)) && decide (lw_tbl[p1]? = some (.static q.1))
      | _ => decide (lw_tbl[p0]? = some (.methodLinkNest (don o) x q.1 "DiskDrawer")) && decide (lw_tbl[p1]? = some (.static q.1)))
set_option maxRecDepth 100000 in
theorem dfl_ok : dfl.all dflOK = true := by decide +kernel
