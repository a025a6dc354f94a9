set_option maxRecDepth 100000 in
theorem dce_0 : dclOK (0, 32, 3, 1, 0, 289, 290, 291, 19, 292) = true := by decide +kernel
set_option maxRecDepth 100000 in
theorem dce_1 : dclOK (0, 40, 4, 1, 0, 293, 294, 295, 20, 296) = true := by decide +kernel
set_option maxRecDepth 100000 in
theorem dce_2 : dclOK (0, 77, 6, 3, 2, 240, 241, 0, 17, 242) = true := by decide +kernel
set_option maxRecDepth 100000 in
theorem dce_3 : dclOK (0, 87, 11, 1, 1, 301, 302, 0, 18, 303) = true := by decide +kernel
set_option maxRecDepth 100000 in
theorem dce_4 : dclOK (0, 108, 14, 1, 0, 266, 267, 268, 18, 269) = true := by decide +kernel
set_option maxRecDepth 100000 in
theorem dce_5 : dclOK (0, 112, 15, 0, 0, 320, 322, 4, 18, 323) = true := by decide +kernel
set_option maxRecDepth 100000 in
theorem dce_6 : dclOK (0, 118, 18, 1, 2, 247, 248, 0, 17, 249) = true := by decide +kernel
set_option maxRecDepth 100000 in
theorem dce_7 : dclOK (0, 122, 21, 0, 0, 340, 341, 342, 19, 343) = true := by decide +kernel
set_option maxRecDepth 100000 in
theorem dce_8 : dclOK (0, 125, 25, 0, 0, 250, 251, 252, 18, 253) = true := by decide +kernel
set_option maxRecDepth 100000 in
theorem dce_9 : dclOK (0, 130, 29, 0, 0, 377, 378, 379, 18, 380) = true := by decide +kernel
set_option maxRecDepth 100000 in
theorem dce_10 : dclOK (0, 133, 30, 0, 0, 381, 383, 5, 18, 384) = true := by decide +kernel
set_option maxRecDepth 100000 in
theorem dce_11 : dclOK (0, 136, 31, 0, 0, 386, 388, 6, 18, 389) = true := by decide +kernel
set_option maxRecDepth 100000 in
theorem dce_12 : dclOK (0, 139, 35, 0, 0, 402, 404, 8, 18, 405) = true := by decide +kernel
set_option maxRecDepth 100000 in
theorem dce_13 : dclOK (0, 142, 37, 1, 0, 410, 412, 10, 18, 413) = true := by decide +kernel
set_option maxRecDepth 100000 in
theorem dce_14 : dclOK (0, 146, 42, 0, 0, 426, 428, 13, 18, 429) = true := by decide +kernel
set_option maxRecDepth 100000 in
theorem dce_15 : dclOK (0, 149, 22, 0, 0, 385, 345, 346, 19, 347) = true := by decide +kernel
set_option maxRecDepth 100000 in
theorem dce_16 : dclOK (0, 155, 32, 0, 0, 390, 391, 392, 19, 393) = true := by decide +kernel
set_option maxRecDepth 100000 in
theorem dce_17 : dclOK (0, 158, 33, 1, 0, 394, 396, 7, 18, 397) = true := by decide +kernel
set_option maxRecDepth 100000 in
theorem dce_18 : dclOK (0, 161, 34, 0, 0, 398, 399, 400, 19, 401) = true := by decide +kernel
set_option maxRecDepth 100000 in
theorem dce_19 : dclOK (0, 167, 36, 1, 0, 406, 408, 9, 18, 409) = true := by decide +kernel
set_option maxRecDepth 100000 in
theorem dce_20 : dclOK (0, 170, 38, 1, 0, 243, 245, 0, 18, 246) = true := by decide +kernel
set_option maxRecDepth 100000 in
theorem dce_21 : dclOK (0, 173, 39, 2, 0, 414, 416, 11, 18, 417) = true := by decide +kernel
set_option maxRecDepth 100000 in
theorem dce_22 : dclOK (0, 177, 41, 1, 0, 422, 423, 424, 19, 425) = true := by decide +kernel
set_option maxRecDepth 100000 in
theorem dce_23 : dclOK (0, 180, 40, 0, 0, 418, 420, 12, 18, 421) = true := by decide +kernel
set_option maxRecDepth 100000 in
theorem dce_24 : dclOK (0, 189, 26, 1, 0, 254, 256, 1, 18, 257) = true := by decide +kernel
set_option maxRecDepth 100000 in
theorem dce_25 : dclOK (0, 197, 77, 1, 0, 270, 272, 2, 18, 273) = true := by decide +kernel
set_option maxRecDepth 100000 in
theorem dce_26 : dclOK (1, 34, 22, 0, 0, 344, 345, 346, 19, 347) = true := by decide +kernel
set_option maxRecDepth 100000 in
theorem dce_27 : dclOK (3, 40, 1, 1, 0, 281, 282, 283, 21, 284) = true := by decide +kernel
set_option maxRecDepth 100000 in
theorem dce_28 : dclOK (3, 44, 5, 2, 0, 360, 361, 362, 18, 363) = true := by decide +kernel
set_option maxRecDepth 100000 in
theorem dce_29 : dclOK (3, 48, 7, 1, 0, 304, 305, 306, 21, 307) = true := by decide +kernel
set_option maxRecDepth 100000 in
theorem dce_30 : dclOK (3, 52, 10, 2, 0, 297, 298, 299, 18, 300) = true := by decide +kernel
set_option maxRecDepth 100000 in
theorem dce_31 : dclOK (3, 55, 13, 1, 0, 316, 317, 318, 18, 319) = true := by decide +kernel
set_option maxRecDepth 100000 in
theorem dce_32 : dclOK (3, 58, 17, 1, 0, 328, 329, 330, 18, 331) = true := by decide +kernel
set_option maxRecDepth 100000 in
theorem dce_33 : dclOK (3, 61, 20, 1, 0, 336, 337, 338, 18, 339) = true := by decide +kernel
set_option maxRecDepth 100000 in
theorem dce_34 : dclOK (3, 64, 24, 0, 0, 352, 353, 354, 18, 355) = true := by decide +kernel
set_option maxRecDepth 100000 in
theorem dce_35 : dclOK (3, 68, 28, 1, 0, 372, 373, 374, 18, 375) = true := by decide +kernel
set_option maxRecDepth 100000 in
theorem dce_36 : dclOK (3, 106, 70, 1, 0, 473, 474, 475, 21, 476) = true := by decide +kernel
set_option maxRecDepth 100000 in
theorem dce_37 : dclOK (3, 113, 2, 1, 0, 466, 286, 287, 18, 288) = true := by decide +kernel
set_option maxRecDepth 100000 in
theorem dce_38 : dclOK (3, 119, 74, 2, 0, 440, 441, 442, 18, 443) = true := by decide +kernel
set_option maxRecDepth 100000 in
theorem dce_39 : dclOK (3, 122, 76, 2, 0, 262, 263, 264, 18, 265) = true := by decide +kernel
set_option maxRecDepth 100000 in
theorem dce_40 : dclOK (3, 125, 79, 0, 0, 451, 452, 453, 18, 454) = true := by decide +kernel
set_option maxRecDepth 100000 in
theorem dce_41 : dclOK (3, 128, 14, 1, 0, 465, 267, 268, 18, 269) = true := by decide +kernel
set_option maxRecDepth 100000 in
theorem dce_42 : dclOK (3, 147, 29, 0, 0, 467, 378, 379, 18, 380) = true := by decide +kernel
set_option maxRecDepth 100000 in
theorem dce_43 : dclOK (3, 161, 6, 3, 1, 486, 241, 0, 17, 242) = true := by decide +kernel
set_option maxRecDepth 100000 in
theorem dce_44 : dclOK (3, 165, 82, 2, 0, 487, 489, 14, 17, 490) = true := by decide +kernel
set_option maxRecDepth 100000 in
theorem dce_45 : dclOK (3, 168, 83, 1, 0, 491, 493, 15, 17, 494) = true := by decide +kernel
set_option maxRecDepth 100000 in
theorem dce_46 : dclOK (3, 175, 18, 1, 1, 495, 248, 0, 17, 249) = true := by decide +kernel
set_option maxRecDepth 100000 in
theorem dce_47 : dclOK (3, 179, 86, 1, 0, 236, 237, 238, 18, 239) = true := by decide +kernel
set_option maxRecDepth 100000 in
theorem dce_48 : dclOK (4, 22, 2, 1, 0, 285, 286, 287, 18, 288) = true := by decide +kernel
set_option maxRecDepth 100000 in
theorem dce_49 : dclOK (4, 26, 8, 0, 0, 308, 310, 3, 21, 311) = true := by decide +kernel
set_option maxRecDepth 100000 in
theorem dce_50 : dclOK (11, 8, 85, 1, 0, 232, 233, 234, 17, 235) = true := by decide +kernel
set_option maxRecDepth 100000 in
theorem dce_51 : dclOK (11, 14, 88, 2, 1, 225, 226, 0, 16, 227) = true := by decide +kernel
set_option maxRecDepth 100000 in
theorem dce_52 : dclOK (11, 20, 75, 2, 0, 258, 259, 260, 17, 261) = true := by decide +kernel
set_option maxRecDepth 100000 in
theorem dce_53 : dclOK (11, 23, 9, 2, 0, 277, 278, 279, 17, 280) = true := by decide +kernel
set_option maxRecDepth 100000 in
theorem dce_54 : dclOK (11, 26, 89, 2, 1, 229, 230, 0, 16, 231) = true := by decide +kernel
set_option maxRecDepth 100000 in
theorem dce_55 : dclOK (11, 30, 12, 1, 0, 312, 313, 314, 17, 315) = true := by decide +kernel
set_option maxRecDepth 100000 in
theorem dce_56 : dclOK (11, 33, 16, 1, 0, 324, 325, 326, 17, 327) = true := by decide +kernel
set_option maxRecDepth 100000 in
theorem dce_57 : dclOK (11, 36, 19, 1, 0, 332, 333, 334, 17, 335) = true := by decide +kernel
set_option maxRecDepth 100000 in
theorem dce_58 : dclOK (11, 39, 23, 0, 0, 348, 349, 350, 17, 351) = true := by decide +kernel
set_option maxRecDepth 100000 in
theorem dce_59 : dclOK (11, 43, 0, 2, 0, 356, 357, 358, 17, 359) = true := by decide +kernel
set_option maxRecDepth 100000 in
theorem dce_60 : dclOK (11, 46, 27, 1, 0, 368, 369, 370, 17, 371) = true := by decide +kernel
set_option maxRecDepth 100000 in
theorem dce_61 : dclOK (11, 49, 73, 2, 0, 436, 437, 438, 17, 439) = true := by decide +kernel
set_option maxRecDepth 100000 in
theorem dce_62 : dclOK (11, 52, 91, 2, 1, 444, 445, 0, 16, 446) = true := by decide +kernel
set_option maxRecDepth 100000 in
theorem dce_63 : dclOK (11, 55, 78, 0, 0, 447, 448, 449, 17, 450) = true := by decide +kernel
set_option maxRecDepth 100000 in
theorem dce_64 : dclOK (11, 58, 80, 1, 0, 461, 462, 463, 17, 464) = true := by decide +kernel
set_option maxRecDepth 100000 in
theorem dce_65 : dclOK (11, 62, 69, 0, 0, 469, 470, 471, 17, 472) = true := by decide +kernel
set_option maxRecDepth 100000 in
theorem dce_66 : dclOK (11, 65, 81, 2, 0, 480, 481, 482, 17, 483) = true := by decide +kernel
set_option maxRecDepth 100000 in
theorem dce_67 : dclOK (11, 68, 84, 0, 0, 496, 497, 498, 17, 499) = true := by decide +kernel
set_option maxRecDepth 100000 in
theorem dce_68 : dclOK (11, 72, 87, 2, 1, 222, 223, 0, 16, 224) = true := by decide +kernel
set_option maxRecDepth 100000 in
theorem dce_69 : dclOK (11, 76, 90, 2, 1, 274, 275, 0, 16, 276) = true := by decide +kernel
set_option maxRecDepth 100000 in
theorem dce_70 : dclOK (11, 86, 92, 2, 1, 458, 459, 0, 16, 460) = true := by decide +kernel
set_option maxRecDepth 100000 in
theorem dce_71 : dclOK (11, 90, 93, 2, 1, 477, 478, 0, 16, 479) = true := by decide +kernel
set_option maxRecDepth 100000 in
theorem dcl_ok : ∀ e ∈ dcl, dclOK e = true := List.forall_mem_cons.mpr ⟨dce_0, List.forall_mem_cons.mpr ⟨dce_1, List.forall_mem_cons.mpr ⟨dce_2, List.forall_mem_cons.mpr ⟨dce_3, List.forall_mem_cons.mpr ⟨dce_4, List.forall_mem_cons.mpr ⟨dce_5, List.forall_mem_cons.mpr ⟨dce_6, List.forall_mem_cons.mpr ⟨dce_7, List.forall_mem_cons.mpr ⟨dce_8, List.forall_mem_cons.mpr ⟨dce_9, List.forall_mem_cons.mpr ⟨dce_10, List.forall_mem_cons.mpr ⟨dce_11, List.forall_mem_cons.mpr ⟨dce_12, List.forall_mem_cons.mpr ⟨dce_13, List.forall_mem_cons.mpr ⟨dce_14, List.forall_mem_cons.mpr ⟨dce_15, List.forall_mem_cons.mpr ⟨dce_16, List.forall_mem_cons.mpr ⟨dce_17, List.forall_mem_cons.mpr ⟨dce_18, List.forall_mem_cons.mpr ⟨dce_19, List.forall_mem_cons.mpr ⟨dce_20, List.forall_mem_cons.mpr ⟨dce_21, List.forall_mem_cons.mpr ⟨dce_22, List.forall_mem_cons.mpr ⟨dce_23, List.forall_mem_cons.mpr ⟨dce_24, List.forall_mem_cons.mpr ⟨dce_25, List.forall_mem_cons.mpr ⟨dce_26, List.forall_mem_cons.mpr ⟨dce_27, List.forall_mem_cons.mpr ⟨dce_28, List.forall_mem_cons.mpr ⟨dce_29, List.forall_mem_cons.mpr ⟨dce_30, List.forall_mem_cons.mpr ⟨dce_31, List.forall_mem_cons.mpr ⟨dce_32, List.forall_mem_cons.mpr ⟨dce_33, List.forall_mem_cons.mpr ⟨dce_34, List.forall_mem_cons.mpr ⟨dce_35, List.forall_mem_cons.mpr ⟨dce_36, List.forall_mem_cons.mpr ⟨dce_37, List.forall_mem_cons.mpr ⟨dce_38, List.forall_mem_cons.mpr ⟨dce_39, List.forall_mem_cons.mpr ⟨dce_40, List.forall_mem_cons.mpr ⟨dce_41, List.forall_mem_cons.mpr ⟨dce_42, List.forall_mem_cons.mpr ⟨dce_43, List.forall_mem_cons.mpr ⟨dce_44, List.forall_mem_cons.mpr ⟨dce_45, List.forall_mem_cons.mpr ⟨dce_46, List.forall_mem_cons.mpr ⟨dce_47, List.forall_mem_cons.mpr ⟨dce_48, List.forall_mem_cons.mpr ⟨dce_49, List.forall_mem_cons.mpr ⟨dce_50, List.forall_mem_cons.mpr ⟨dce_51, List.forall_mem_cons.mpr ⟨dce_52, List.forall_mem_cons.mpr ⟨dce_53, List.forall_mem_cons.mpr ⟨dce_54, List.forall_mem_cons.mpr ⟨dce_55, List.forall_mem_cons.mpr ⟨dce_56, List.forall_mem_cons.mpr ⟨dce_57, List.forall_mem_cons.mpr ⟨dce_58, List.forall_mem_cons.mpr ⟨dce_59, List.forall_mem_cons.mpr ⟨dce_60, List.forall_mem_cons.mpr ⟨dce_61, List.forall_mem_cons.mpr ⟨dce_62, List.forall_mem_cons.mpr ⟨dce_63, List.forall_mem_cons.mpr ⟨dce_64, List.forall_mem_cons.mpr ⟨dce_65, List.forall_mem_cons.mpr ⟨dce_66, List.forall_mem_cons.mpr ⟨dce_67, List.forall_mem_cons.mpr ⟨dce_68, List.forall_mem_cons.mpr ⟨dce_69, List.forall_mem_cons.mpr ⟨dce_70, List.forall_mem_cons.mpr ⟨dce_71, fun _ h => absurd h List.not_mem_nil⟩⟩⟩⟩⟩⟩⟩⟩⟩⟩⟩⟩⟩⟩⟩⟩⟩⟩⟩⟩⟩⟩⟩⟩⟩⟩⟩⟩⟩⟩⟩⟩⟩⟩⟩⟩⟩⟩⟩⟩⟩⟩⟩⟩⟩⟩⟩⟩⟩⟩⟩⟩⟩⟩⟩⟩⟩⟩⟩⟩⟩⟩⟩⟩⟩⟩⟩⟩⟩⟩⟩⟩
set_option maxRecDepth 100000 in
theorem dg_0 : dGood dM_0 := ⟨by decide +kernel, ⟨by decide +kernel, by decide +kernel⟩, by decide +kernel, by decide +kernel⟩
set_option maxRecDepth 100000 in
theorem dg_1 : dGood dM_1 := ⟨by decide +kernel, ⟨by decide +kernel, by decide +kernel⟩, by decide +kernel, by decide +kernel⟩
set_option maxRecDepth 100000 in
theorem dg_2 : dGood dM_2 := ⟨by decide +kernel, ⟨by decide +kernel, by decide +kernel⟩, by decide +kernel, by decide +kernel⟩
set_option maxRecDepth 100000 in
theorem dg_3 : dGood dM_3 := ⟨by decide +kernel, ⟨by decide +kernel, by decide +kernel⟩, by decide +kernel, by decide +kernel⟩
set_option maxRecDepth 100000 in
theorem dg_4 : dGood dM_4 := ⟨by decide +kernel, ⟨by decide +kernel, by decide +kernel⟩, by decide +kernel, by decide +kernel⟩
set_option maxRecDepth 100000 in
theorem dg_5 : dGood dM_5 := ⟨by decide +kernel, ⟨by decide +kernel, by decide +kernel⟩, by decide +kernel, by decide +kernel⟩
set_option maxRecDepth 100000 in
theorem dg_6 : dGood dM_6 := ⟨by decide +kernel, ⟨by decide +kernel, by decide +kernel⟩, by decide +kernel, by decide +kernel⟩
set_option maxRecDepth 100000 in
theorem dg_7 : dGood dM_7 := ⟨by decide +kernel, ⟨by decide +kernel, by decide +kernel⟩, by decide +kernel, by decide +kernel⟩
set_option maxRecDepth 100000 in
theorem dg_8 : dGood dM_8 := ⟨by decide +kernel, ⟨by decide +kernel, by decide +kernel⟩, by decide +kernel, by decide +kernel⟩
set_option maxRecDepth 100000 in
theorem dg_9 : dGood dM_9 := ⟨by decide +kernel, ⟨by decide +kernel, by decide +kernel⟩, by decide +kernel, by decide +kernel⟩
set_option maxRecDepth 100000 in
theorem dg_10 : dGood dM_10 := ⟨by decide +kernel, ⟨by decide +kernel, by decide +kernel⟩, by decide +kernel, by decide +kernel⟩
set_option maxRecDepth 100000 in
theorem dg_11 : dGood dM_11 := ⟨by decide +kernel, ⟨by decide +kernel, by decide +kernel⟩, by decide +kernel, by decide +kernel⟩
set_option maxRecDepth 100000 in
theorem dg_12 : dGood dM_12 := ⟨by decide +kernel, ⟨by decide +kernel, by decide +kernel⟩, by decide +kernel, by decide +kernel⟩
set_option maxRecDepth 100000 in
theorem dg_13 : dGood dM_13 := ⟨by decide +kernel, ⟨by decide +kernel, by decide +kernel⟩, by decide +kernel, by decide +kernel⟩
set_option maxRecDepth 100000 in
theorem dg_14 : dGood dM_14 := ⟨by decide +kernel, ⟨by decide +kernel, by decide +kernel⟩, by decide +kernel, by decide +kernel⟩
set_option maxRecDepth 100000 in
theorem dg_15 : dGood dM_15 := ⟨by decide +kernel, ⟨by decide +kernel, by decide +kernel⟩, by decide +kernel, by decide +kernel⟩
set_option maxRecDepth 100000 in
theorem dg_16 : dGood dM_16 := ⟨by decide +kernel, ⟨by decide +kernel, by decide +kernel⟩, by decide +kernel, by decide +kernel⟩
set_option maxRecDepth 100000 in
theorem dg_17 : dGood dM_17 := ⟨by decide +kernel, ⟨by decide +kernel, by decide +kernel⟩, by decide +kernel, by decide +kernel⟩
set_option maxRecDepth 100000 in
theorem dg_18 : dGood dM_18 := ⟨by decide +kernel, ⟨by decide +kernel, by decide +kernel⟩, by decide +kernel, by decide +kernel⟩
set_option maxRecDepth 100000 in
theorem dg_19 : dGood dM_19 := ⟨by decide +kernel, ⟨by decide +kernel, by decide +kernel⟩, by decide +kernel, by decide +kernel⟩
set_option maxRecDepth 100000 in
theorem dg_20 : dGood dM_20 := ⟨by decide +kernel, ⟨by decide +kernel, by decide +kernel⟩, by decide +kernel, by decide +kernel⟩
set_option maxRecDepth 100000 in
theorem dg_21 : dGood dM_21 := ⟨by decide +kernel, ⟨by decide +kernel, by decide +kernel⟩, by decide +kernel, by decide +kernel⟩
set_option maxRecDepth 100000 in
theorem dg_22 : dGood dM_22 := ⟨by decide +kernel, ⟨by decide +kernel, by decide +kernel⟩, by decide +kernel, by decide +kernel⟩
set_option maxRecDepth 100000 in
theorem dg_23 : dGood dM_23 := ⟨by decide +kernel, ⟨by decide +kernel, by decide +kernel⟩, by decide +kernel, by decide +kernel⟩
set_option maxRecDepth 100000 in
theorem dg_24 : dGood dM_24 := ⟨by decide +kernel, ⟨by decide +kernel, by decide +kernel⟩, by decide +kernel, by decide +kernel⟩
set_option maxRecDepth 100000 in
theorem dg_25 : dGood dM_25 := ⟨by decide +kernel, ⟨by decide +kernel, by decide +kernel⟩, by decide +kernel, by decide +kernel⟩
set_option maxRecDepth 100000 in
theorem dg_26 : dGood dM_26 := ⟨by decide +kernel, ⟨by decide +kernel, by decide +kernel⟩, by decide +kernel, by decide +kernel⟩
set_option maxRecDepth 100000 in
theorem dg_27 : dGood dM_27 := ⟨by decide +kernel, ⟨by decide +kernel, by decide +kernel⟩, by decide +kernel, by decide +kernel⟩
set_option maxRecDepth 100000 in
theorem dg_28 : dGood dM_28 := ⟨by decide +kernel, ⟨by decide +kernel, by decide +kernel⟩, by decide +kernel, by decide +kernel⟩
set_option maxRecDepth 100000 in
theorem dg_29 : dGood dM_29 := ⟨by decide +kernel, ⟨by decide +kernel, by decide +kernel⟩, by decide +kernel, by decide +kernel⟩
set_option maxRecDepth 100000 in
theorem dg_30 : dGood dM_30 := ⟨by decide +kernel, ⟨by decide +kernel, by decide +kernel⟩, by decide +kernel, by decide +kernel⟩
set_option maxRecDepth 100000 in
theorem dg_31 : dGood dM_31 := ⟨by decide +kernel, ⟨by decide +kernel, by decide +kernel⟩, by decide +kernel, by decide +kernel⟩
set_option maxRecDepth 100000 in
theorem dg_32 : dGood dM_32 := ⟨by decide +kernel, ⟨by decide +kernel, by decide +kernel⟩, by decide +kernel, by decide +kernel⟩
set_option maxRecDepth 100000 in
theorem dg_33 : dGood dM_33 := ⟨by decide +kernel, ⟨by decide +kernel, by decide +kernel⟩, by decide +kernel, by decide +kernel⟩
set_option maxRecDepth 100000 in
theorem dg_34 : dGood dM_34 := ⟨by decide +kernel, ⟨by decide +kernel, by decide +kernel⟩, by decide +kernel, by decide +kernel⟩
set_option maxRecDepth 100000 in
theorem dg_35 : dGood dM_35 := ⟨by decide +kernel, ⟨by decide +kernel, by decide +kernel⟩, by decide +kernel, by decide +kernel⟩
set_option maxRecDepth 100000 in
theorem dg_36 : dGood dM_36 := ⟨by decide +kernel, ⟨by decide +kernel, by decide +kernel⟩, by decide +kernel, by decide +kernel⟩
set_option maxRecDepth 100000 in
theorem dg_37 : dGood dM_37 := ⟨by decide +kernel, ⟨by decide +kernel, by decide +kernel⟩, by decide +kernel, by decide +kernel⟩
set_option maxRecDepth 100000 in
theorem dg_38 : dGood dM_38 := ⟨by decide +kernel, ⟨by decide +kernel, by decide +kernel⟩, by decide +kernel, by decide +kernel⟩
set_option maxRecDepth 100000 in
theorem dg_39 : dGood dM_39 := ⟨by decide +kernel, ⟨by decide +kernel, by decide +kernel⟩, by decide +kernel, by decide +kernel⟩
set_option maxRecDepth 100000 in
theorem dg_40 : dGood dM_40 := ⟨by decide +kernel, ⟨by decide +kernel, by decide +kernel⟩, by decide +kernel, by decide +kernel⟩
set_option maxRecDepth 100000 in
theorem dg_41 : dGood dM_41 := ⟨by decide +kernel, ⟨by decide +kernel, by decide +kernel⟩, by decide +kernel, by decide +kernel⟩
set_option maxRecDepth 100000 in
theorem dg_42 : dGood dM_42 := ⟨by decide +kernel, ⟨by decide +kernel, by decide +kernel⟩, by decide +kernel, by decide +kernel⟩
set_option maxRecDepth 100000 in
theorem dg_69 : dGood dM_69 := ⟨by decide +kernel, ⟨by decide +kernel, by decide +kernel⟩, by decide +kernel, by decide +kernel⟩
set_option maxRecDepth 100000 in
theorem dg_70 : dGood dM_70 := ⟨by decide +kernel, ⟨by decide +kernel, by decide +kernel⟩, by decide +kernel, by decide +kernel⟩
set_option maxRecDepth 100000 in
theorem dg_73 : dGood dM_73 := ⟨by decide +kernel, ⟨by decide +kernel, by decide +kernel⟩, by decide +kernel, by decide +kernel⟩
set_option maxRecDepth 100000 in
theorem dg_74 : dGood dM_74 := ⟨by decide +kernel, ⟨by decide +kernel, by decide +kernel⟩, by decide +kernel, by decide +kernel⟩
set_option maxRecDepth 100000 in
theorem dg_75 : dGood dM_75 := ⟨by decide +kernel, ⟨by decide +kernel, by decide +kernel⟩, by decide +kernel, by decide +kernel⟩
set_option maxRecDepth 100000 in
theorem dg_76 : dGood dM_76 := ⟨by decide +kernel, ⟨by decide +kernel, by decide +kernel⟩, by decide +kernel, by decide +kernel⟩
set_option maxRecDepth 100000 in
theorem dg_77 : dGood dM_77 := ⟨by decide +kernel, ⟨by decide +kernel, by decide +kernel⟩, by decide +kernel, by decide +kernel⟩
set_option maxRecDepth 100000 in
theorem dg_78 : dGood dM_78 := ⟨by decide +kernel, ⟨by decide +kernel, by decide +kernel⟩, by decide +kernel, by decide +kernel⟩
set_option maxRecDepth 100000 in
theorem dg_79 : dGood dM_79 := ⟨by decide +kernel, ⟨by decide +kernel, by decide +kernel⟩, by decide +kernel, by decide +kernel⟩
set_option maxRecDepth 100000 in
theorem dg_80 : dGood dM_80 := ⟨by decide +kernel, ⟨by decide +kernel, by decide +kernel⟩, by decide +kernel, by decide +kernel⟩
set_option maxRecDepth 100000 in
theorem dg_81 : dGood dM_81 := ⟨by decide +kernel, ⟨by decide +kernel, by decide +kernel⟩, by decide +kernel, by decide +kernel⟩
set_option maxRecDepth 100000 in
theorem dg_82 : dGood dM_82 := ⟨by decide +kernel, ⟨by decide +kernel, by decide +kernel⟩, by decide +kernel, by decide +kernel⟩
set_option maxRecDepth 100000 in
theorem dg_83 : dGood dM_83 := ⟨by decide +kernel, ⟨by decide +kernel, by decide +kernel⟩, by decide +kernel, by decide +kernel⟩
set_option maxRecDepth 100000 in
theorem dg_84 : dGood dM_84 := ⟨by decide +kernel, ⟨by decide +kernel, by decide +kernel⟩, by decide +kernel, by decide +kernel⟩
set_option maxRecDepth 100000 in
theorem dg_85 : dGood dM_85 := ⟨by decide +kernel, ⟨by decide +kernel, by decide +kernel⟩, by decide +kernel, by decide +kernel⟩
set_option maxRecDepth 100000 in
theorem dg_86 : dGood dM_86 := ⟨by decide +kernel, ⟨by decide +kernel, by decide +kernel⟩, by decide +kernel, by decide +kernel⟩
set_option maxRecDepth 100000 in
theorem dg_87 : dGood dM_87 := ⟨by decide +kernel, ⟨by decide +kernel, by decide +kernel⟩, by decide +kernel, by decide +kernel⟩
set_option maxRecDepth 100000 in
theorem dg_88 : dGood dM_88 := ⟨by decide +kernel, ⟨by decide +kernel, by decide +kernel⟩, by decide +kernel, by decide +kernel⟩
set_option maxRecDepth 100000 in
theorem dg_89 : dGood dM_89 := ⟨by decide +kernel, ⟨by decide +kernel, by decide +kernel⟩, by decide +kernel, by decide +kernel⟩
set_option maxRecDepth 100000 in
theorem dg_90 : dGood dM_90 := ⟨by decide +kernel, ⟨by decide +kernel, by decide +kernel⟩, by decide +kernel, by decide +kernel⟩
set_option maxRecDepth 100000 in
theorem dg_91 : dGood dM_91 := ⟨by decide +kernel, ⟨by decide +kernel, by decide +kernel⟩, by decide +kernel, by decide +kernel⟩
set_option maxRecDepth 100000 in
theorem dg_92 : dGood dM_92 := ⟨by decide +kernel, ⟨by decide +kernel, by decide +kernel⟩, by decide +kernel, by decide +kernel⟩
set_option maxRecDepth 100000 in
theorem dg_93 : dGood dM_93 := ⟨by decide +kernel, ⟨by decide +kernel, by decide +kernel⟩, by decide +kernel, by decide +kernel⟩
set_option maxRecDepth 100000 in
theorem dg_law : dchk 11 (some .boolean) code dT_law = true ∧ dchk2 dT_law 5 = true := ⟨by decide +kernel, by decide +kernel⟩
set_option maxRecDepth 100000 in
theorem dg_disks : dchk 11 (some .boolean) method_7_code dT_disks = true ∧ dchk2 dT_disks 8 = true := ⟨by decide +kernel, by decide +kernel⟩
set_option maxRecDepth 100000 in
theorem dg_reads : dchk 11 (some .boolean) method_8_code dT_reads = true ∧ dchk2 dT_reads 7 = true := ⟨by decide +kernel, by decide +kernel⟩
theorem dgs_0 : ∀ q ∈ dms_0, dGood q := List.forall_mem_cons.mpr ⟨dg_0, List.forall_mem_cons.mpr ⟨dg_1, List.forall_mem_cons.mpr ⟨dg_2, List.forall_mem_cons.mpr ⟨dg_3, List.forall_mem_cons.mpr ⟨dg_4, List.forall_mem_cons.mpr ⟨dg_5, List.forall_mem_cons.mpr ⟨dg_6, List.forall_mem_cons.mpr ⟨dg_7, List.forall_mem_cons.mpr ⟨dg_8, List.forall_mem_cons.mpr ⟨dg_9, List.forall_mem_cons.mpr ⟨dg_10, List.forall_mem_cons.mpr ⟨dg_11, List.forall_mem_cons.mpr ⟨dg_12, List.forall_mem_cons.mpr ⟨dg_13, List.forall_mem_cons.mpr ⟨dg_14, List.forall_mem_cons.mpr ⟨dg_15, List.forall_mem_cons.mpr ⟨dg_16, List.forall_mem_cons.mpr ⟨dg_17, List.forall_mem_cons.mpr ⟨dg_18, List.forall_mem_cons.mpr ⟨dg_19, List.forall_mem_cons.mpr ⟨dg_20, List.forall_mem_cons.mpr ⟨dg_21, List.forall_mem_cons.mpr ⟨dg_22, List.forall_mem_cons.mpr ⟨dg_23, List.forall_mem_cons.mpr ⟨dg_24, fun _ h => absurd h List.not_mem_nil⟩⟩⟩⟩⟩⟩⟩⟩⟩⟩⟩⟩⟩⟩⟩⟩⟩⟩⟩⟩⟩⟩⟩⟩⟩
theorem dgs_1 : ∀ q ∈ dms_1, dGood q := List.forall_mem_cons.mpr ⟨dg_25, List.forall_mem_cons.mpr ⟨dg_26, List.forall_mem_cons.mpr ⟨dg_27, List.forall_mem_cons.mpr ⟨dg_28, List.forall_mem_cons.mpr ⟨dg_29, List.forall_mem_cons.mpr ⟨dg_30, List.forall_mem_cons.mpr ⟨dg_31, List.forall_mem_cons.mpr ⟨dg_32, List.forall_mem_cons.mpr ⟨dg_33, List.forall_mem_cons.mpr ⟨dg_34, List.forall_mem_cons.mpr ⟨dg_35, List.forall_mem_cons.mpr ⟨dg_36, List.forall_mem_cons.mpr ⟨dg_37, List.forall_mem_cons.mpr ⟨dg_38, List.forall_mem_cons.mpr ⟨dg_39, List.forall_mem_cons.mpr ⟨dg_40, List.forall_mem_cons.mpr ⟨dg_41, List.forall_mem_cons.mpr ⟨dg_42, List.forall_mem_cons.mpr ⟨dg_18, List.forall_mem_cons.mpr ⟨dg_18, List.forall_mem_cons.mpr ⟨dg_18, List.forall_mem_cons.mpr ⟨dg_18, List.forall_mem_cons.mpr ⟨dg_18, List.forall_mem_cons.mpr ⟨dg_18, List.forall_mem_cons.mpr ⟨dg_18, fun _ h => absurd h List.not_mem_nil⟩⟩⟩⟩⟩⟩⟩⟩⟩⟩⟩⟩⟩⟩⟩⟩⟩⟩⟩⟩⟩⟩⟩⟩⟩
theorem dgs_2 : ∀ q ∈ dms_2, dGood q := List.forall_mem_cons.mpr ⟨dg_18, List.forall_mem_cons.mpr ⟨dg_18, List.forall_mem_cons.mpr ⟨dg_18, List.forall_mem_cons.mpr ⟨dg_18, List.forall_mem_cons.mpr ⟨dg_18, List.forall_mem_cons.mpr ⟨dg_18, List.forall_mem_cons.mpr ⟨dg_18, List.forall_mem_cons.mpr ⟨dg_18, List.forall_mem_cons.mpr ⟨dg_18, List.forall_mem_cons.mpr ⟨dg_18, List.forall_mem_cons.mpr ⟨dg_18, List.forall_mem_cons.mpr ⟨dg_18, List.forall_mem_cons.mpr ⟨dg_18, List.forall_mem_cons.mpr ⟨dg_18, List.forall_mem_cons.mpr ⟨dg_18, List.forall_mem_cons.mpr ⟨dg_18, List.forall_mem_cons.mpr ⟨dg_18, List.forall_mem_cons.mpr ⟨dg_18, List.forall_mem_cons.mpr ⟨dg_18, List.forall_mem_cons.mpr ⟨dg_69, List.forall_mem_cons.mpr ⟨dg_70, List.forall_mem_cons.mpr ⟨dg_18, List.forall_mem_cons.mpr ⟨dg_18, List.forall_mem_cons.mpr ⟨dg_73, List.forall_mem_cons.mpr ⟨dg_74, fun _ h => absurd h List.not_mem_nil⟩⟩⟩⟩⟩⟩⟩⟩⟩⟩⟩⟩⟩⟩⟩⟩⟩⟩⟩⟩⟩⟩⟩⟩⟩
theorem dgs_3 : ∀ q ∈ dms_3, dGood q := List.forall_mem_cons.mpr ⟨dg_75, List.forall_mem_cons.mpr ⟨dg_76, List.forall_mem_cons.mpr ⟨dg_77, List.forall_mem_cons.mpr ⟨dg_78, List.forall_mem_cons.mpr ⟨dg_79, List.forall_mem_cons.mpr ⟨dg_80, List.forall_mem_cons.mpr ⟨dg_81, List.forall_mem_cons.mpr ⟨dg_82, List.forall_mem_cons.mpr ⟨dg_83, List.forall_mem_cons.mpr ⟨dg_84, List.forall_mem_cons.mpr ⟨dg_85, List.forall_mem_cons.mpr ⟨dg_86, List.forall_mem_cons.mpr ⟨dg_87, List.forall_mem_cons.mpr ⟨dg_88, List.forall_mem_cons.mpr ⟨dg_89, List.forall_mem_cons.mpr ⟨dg_90, List.forall_mem_cons.mpr ⟨dg_91, List.forall_mem_cons.mpr ⟨dg_92, List.forall_mem_cons.mpr ⟨dg_93, fun _ h => absurd h List.not_mem_nil⟩⟩⟩⟩⟩⟩⟩⟩⟩⟩⟩⟩⟩⟩⟩⟩⟩⟩⟩
theorem dgs : ∀ q ∈ dms, dGood q := fun q h => (List.mem_append.mp h).elim (dgs_0 q) ((fun q h => (List.mem_append.mp h).elim (dgs_1 q) ((fun q h => (List.mem_append.mp h).elim (dgs_2 q) ((dgs_3) q)) q)) q)
