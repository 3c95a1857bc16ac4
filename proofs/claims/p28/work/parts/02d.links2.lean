/-! ===== more of the links, with their places among the words ===== -/
def xns : List Nat := [0, 0, 1, 1, 0, 2, 3, 2, 1, 4, 2, 0, 1, 1, 0, 2, 1, 0, 1, 1, 0, 0, 1, 2, 2, 0, 0, 2, 2, 2, 2, 2, 3, 2, 3, 2, 3, 3, 2, 1, 3, 2, 3, 1, 1, 1, 2, 2, 2, 3, 3, 2, 0, 0, 0, 2, 3, 2, 0, 0, 0, 0, 0, 2, 2, 2, 1, 0, 1, 2, 2, 3, 3, 6, 3, 3, 3, 4, 2, 2, 3, 3, 1, 2, 3, 3, 1, 2, 1, 1, 1, 3, 1, 3, 1, 3, 2, 1, 2, 1, 1, 1, 2, 2, 1, 1, 2, 1, 1, 3, 2, 2, 2, 2, 5, 5, 5, 7, 2, 2, 1]
def xn (j : Nat) : Nat := xns.getD j 0
def xOI : List (Nat × Nat) := [(0, 1), (1, 5), (2, 3), (4, 1), (5, 3), (6, 3)]
def xNM : Nat := 121
def xMMp : List (Nat × Nat × Nat × Nat) := [(1, 11, 1, 141), (2, 111, 2, 385), (2, 131, 1, 425), (5, 36, 2, 333), (6, 297, 3, 665), (6, 304, 4, 673), (9, 304, 2, 460)]
def xMM : List (Nat × Nat × Nat) := xMMp.map (fun q => (q.1, q.2.1, q.2.2.1))
-- places of static and code words of Math: {1: (142, 143), 2: (334, 335), 3: (666, 667), 4: (674, 675)}
def xMLp : List (Nat × Nat × Nat × Nat × Nat × Nat × Nat) := [(0, 23, 48, 0, 433, 321, 0), (0, 29, 47, 0, 424, 263, 0), (0, 32, 50, 0, 402, 403, 0), (0, 36, 49, 0, 405, 406, 0), (0, 39, 5, 1, 738, 399, 400), (1, 34, 48, 0, 519, 321, 0), (1, 40, 50, 0, 529, 403, 0), (1, 44, 14, 1, 563, 503, 504), (1, 47, 11, 1, 564, 512, 513), (1, 50, 12, 1, 546, 516, 517), (1, 54, 13, 1, 549, 521, 522), (1, 57, 15, 1, 565, 526, 527), (1, 65, 18, 0, 550, 551, 0), (1, 69, 10, 0, 553, 554, 0), (1, 73, 112, 0, 607, 601, 0), (2, 44, 47, 0, 293, 263, 0), (2, 50, 4, 1, 390, 391, 392), (2, 53, 5, 1, 398, 399, 400), (2, 57, 43, 1, 408, 410, 10), (2, 61, 24, 1, 372, 373, 374), (2, 65, 40, 1, 376, 378, 7), (2, 69, 22, 1, 380, 290, 291), (2, 73, 34, 1, 381, 383, 8), (2, 76, 23, 1, 386, 308, 309), (2, 79, 42, 1, 394, 396, 9), (2, 83, 28, 1, 574, 369, 370), (2, 86, 49, 0, 464, 406, 0), (2, 90, 32, 1, 722, 724, 28), (2, 94, 30, 1, 726, 727, 728), (2, 97, 1, 1, 412, 413, 414), (2, 100, 3, 1, 420, 421, 422), (2, 103, 7, 1, 730, 731, 732), (2, 107, 6, 1, 734, 735, 736), (2, 116, 111, 0, 387, 388, 0), (2, 121, 36, 1, 651, 653, 25), (2, 124, 41, 1, 643, 645, 24), (2, 128, 39, 1, 635, 637, 22), (2, 134, 38, 1, 639, 641, 23), (2, 137, 35, 1, 647, 648, 649), (2, 140, 26, 1, 435, 437, 12), (2, 143, 44, 1, 416, 418, 11), (2, 146, 45, 0, 426, 427, 0), (2, 157, 46, 1, 442, 444, 13), (2, 161, 2, 1, 429, 430, 431), (2, 167, 51, 0, 446, 447, 0), (3, 10, 113, 0, 450, 451, 0), (4, 9, 8, 2, 137, 138, 0), (4, 24, 14, 1, 502, 503, 504), (4, 27, 15, 1, 525, 526, 527), (4, 31, 58, 1, 530, 532, 19), (4, 34, 11, 1, 511, 512, 513), (4, 38, 12, 1, 515, 516, 517), (4, 42, 13, 1, 520, 521, 522), (4, 47, 9, 0, 748, 749, 0), (4, 51, 10, 0, 752, 554, 0), (5, 29, 62, 1, 327, 329, 4), (5, 32, 66, 1, 336, 338, 5), (6, 47, 8, 2, 164, 138, 0), (6, 50, 92, 0, 191, 192, 0), (6, 53, 47, 0, 262, 263, 0), (6, 59, 49, 0, 473, 406, 0), (6, 64, 95, 0, 612, 613, 0), (6, 68, 27, 1, 693, 694, 695), (6, 72, 102, 1, 465, 467, 14), (6, 76, 97, 1, 269, 271, 1), (6, 80, 105, 0, 478, 479, 0), (6, 91, 103, 1, 474, 476, 15), (6, 95, 63, 1, 706, 707, 708), (6, 98, 60, 1, 681, 682, 683), (6, 103, 54, 1, 498, 499, 500), (6, 106, 9, 0, 772, 749, 0), (6, 110, 55, 1, 773, 774, 775), (6, 114, 104, 1, 534, 536, 20), (6, 117, 93, 0, 360, 361, 0), (6, 120, 96, 1, 363, 365, 6), (6, 123, 28, 1, 368, 369, 370), (6, 126, 99, 1, 315, 317, 3), (6, 130, 100, 1, 485, 487, 16), (6, 134, 109, 1, 494, 496, 18), (6, 138, 29, 1, 570, 571, 572), (6, 141, 106, 0, 575, 576, 0), (6, 145, 110, 1, 580, 582, 21), (6, 154, 31, 1, 718, 719, 720), (6, 157, 30, 1, 739, 727, 728), (6, 160, 57, 1, 744, 745, 746), (6, 164, 33, 1, 596, 597, 598), (6, 167, 112, 0, 600, 601, 0), (6, 173, 19, 1, 603, 604, 605), (6, 179, 35, 1, 758, 648, 649), (6, 182, 37, 1, 631, 632, 633), (6, 186, 22, 1, 289, 290, 291), (6, 189, 94, 0, 298, 299, 0), (6, 192, 98, 1, 302, 304, 2), (6, 195, 23, 1, 307, 308, 309), (6, 198, 24, 1, 763, 373, 374), (6, 202, 107, 1, 660, 662, 26), (6, 205, 108, 1, 668, 670, 27), (6, 208, 65, 1, 676, 677, 678), (6, 214, 61, 1, 343, 344, 345), (6, 218, 64, 1, 323, 324, 325), (6, 222, 20, 1, 812, 813, 814), (6, 225, 11, 1, 584, 512, 513), (6, 230, 12, 1, 585, 516, 517), (6, 233, 13, 1, 586, 521, 522), (6, 236, 10, 0, 806, 554, 0), (6, 257, 48, 0, 320, 321, 0), (6, 260, 101, 1, 489, 491, 17), (6, 265, 25, 1, 469, 470, 471), (6, 270, 50, 0, 484, 403, 0), (6, 273, 53, 1, 538, 539, 540), (6, 277, 17, 1, 542, 543, 544), (6, 283, 16, 1, 559, 560, 561), (6, 309, 56, 1, 507, 508, 509), (8, 7, 69, 1, 688, 689, 690), (8, 13, 71, 1, 697, 698, 699), (8, 17, 72, 1, 702, 703, 704), (8, 20, 70, 1, 710, 711, 712), (8, 23, 77, 1, 714, 715, 716), (8, 27, 78, 1, 740, 741, 742), (8, 30, 80, 1, 753, 754, 755), (8, 33, 84, 1, 759, 760, 761), (8, 36, 74, 1, 356, 357, 358), (8, 40, 75, 1, 566, 567, 568), (8, 43, 76, 1, 587, 588, 589), (8, 46, 79, 1, 592, 593, 594), (8, 50, 81, 1, 608, 609, 610), (8, 53, 85, 1, 655, 656, 657), (8, 56, 114, 0, 685, 686, 0), (8, 62, 115, 0, 353, 354, 0), (8, 72, 73, 1, 767, 768, 769), (8, 78, 68, 1, 187, 188, 189), (8, 82, 82, 1, 265, 266, 267), (8, 85, 83, 1, 294, 295, 296), (8, 91, 116, 0, 347, 348, 0), (8, 94, 88, 1, 786, 787, 788), (8, 98, 86, 1, 311, 312, 313), (8, 105, 87, 1, 792, 793, 794), (8, 108, 90, 1, 796, 797, 798), (8, 113, 91, 1, 801, 802, 803), (8, 119, 89, 1, 808, 809, 810), (8, 122, 67, 2, 50, 51, 0), (8, 123, 118, 0, 777, 778, 0), (8, 128, 117, 0, 764, 765, 0), (8, 131, 119, 0, 782, 783, 0)]
def xcwp : List Nat := [68, 415, 432, 423, 393, 401, 737, 733, 139, 750, 555, 514, 518, 523, 505, 528, 562, 545, 552, 606, 815, 62, 292, 310, 375, 472, 438, 696, 371, 573, 729, 721, 725, 599, 384, 650, 654, 634, 642, 638, 379, 646, 397, 411, 419, 428, 445, 264, 322, 407, 404, 448, 133, 541, 501, 776, 510, 747, 533, 114, 684, 346, 330, 709, 326, 679, 339, 52, 190, 691, 713, 700, 705, 770, 359, 569, 590, 717, 743, 595, 756, 611, 268, 297, 762, 658, 314, 795, 789, 811, 799, 804, 193, 362, 300, 614, 366, 272, 305, 318, 488, 492, 468, 477, 537, 480, 577, 663, 671, 497, 583, 389, 602, 452, 687, 355, 349, 766, 779, 784]
def xcip : List Nat := [32, 32, 32, 32, 32, 32, 32, 32, 35, 35, 35, 35, 35, 35, 35, 35, 35, 35, 35, 35, 35, 31, 31, 31, 31, 31, 31, 31, 31, 31, 31, 31, 31, 31, 31, 31, 31, 31, 31, 31, 31, 31, 31, 31, 31, 31, 31, 41, 41, 41, 41, 41, 34, 34, 34, 34, 34, 34, 34, 33, 33, 33, 33, 33, 33, 33, 33, 30, 30, 30, 30, 30, 30, 30, 30, 30, 30, 30, 30, 30, 30, 30, 30, 30, 30, 30, 30, 30, 30, 30, 30, 30, 30, 30, 30, 30, 30, 30, 30, 30, 30, 30, 30, 30, 30, 30, 30, 30, 30, 30, 30, 43, 46, 44, 29, 29, 29, 29, 29, 29]
def xOIp : List (Nat × Nat × Nat) := [(0, 1, 69), (1, 5, 140), (2, 3, 63), (4, 1, 134), (5, 3, 115), (6, 3, 53)]
def xNSp : List (Nat × Nat × Nat × Nat) := [(2, 33, 0, 67), (6, 28, 21, 61), (6, 35, 59, 113), (6, 42, 52, 132)]
theorem xML_eq : xML = xMLp.map (fun q => (q.1, q.2.1, q.2.2.1, q.2.2.2.1)) := by decide +kernel
theorem xMLp_ok : ∀ q ∈ xMLp, lw_tbl[q.2.2.2.2.1]? = some (.methodLink (xcn q.1) q.2.1 (xy q.2.2.1)) ∧ (q.2.2.2.1 = 0 → lw_tbl[q.2.2.2.2.2.1]? = some (.static (xy q.2.2.1))) ∧ (q.2.2.2.1 ≠ 0 → lw_tbl[q.2.2.2.2.2.1]? = some (.instanceMethod (xy q.2.2.1)) ∧ xhr q.2.2.1 = []) ∧ (q.2.2.2.1 = 1 → lw_tbl[q.2.2.2.2.2.2]? = some (.selects (xy q.2.2.1).cls (xy q.2.2.1) (xy q.2.2.1))) ∧ (q.2.2.2.1 = 2 → (xy q.2.2.1).name = "<init>" ∧ xr q.2.2.1 = none) ∧ q.2.2.1 + 1 < xNM := by decide +kernel
def xcw (j : Nat) : Cond := match xhr j with
  | [] => .code (xy j) (xb j) (xml j) (xr j)
  | h :: hh => .codeWith (xy j) (xb j) (xml j) (xr j) (h :: hh)
def xAll (P : Nat → Prop) : Nat → Prop
  | 0 => True
  | n + 1 => P n ∧ xAll P n
theorem xAll_get {P : Nat → Prop} : ∀ {n : Nat}, xAll P n → ∀ j, j < n → P j
  | 0, _, j, h => absurd h (Nat.not_lt_zero j)
  | n + 1, h, j, hj => by
    rcases Nat.lt_or_ge j n with g | g
    · exact xAll_get h.2 j g
    · rw [show j = n by omega]
      exact h.1
set_option maxRecDepth 100000 in
theorem xcw_0 : lw_tbl[68]? = some (xcw 0) := rfl
set_option maxRecDepth 100000 in
theorem xcw_1 : lw_tbl[415]? = some (xcw 1) := rfl
set_option maxRecDepth 100000 in
theorem xcw_2 : lw_tbl[432]? = some (xcw 2) := rfl
set_option maxRecDepth 100000 in
theorem xcw_3 : lw_tbl[423]? = some (xcw 3) := rfl
set_option maxRecDepth 100000 in
theorem xcw_4 : lw_tbl[393]? = some (xcw 4) := rfl
set_option maxRecDepth 100000 in
theorem xcw_5 : lw_tbl[401]? = some (xcw 5) := rfl
set_option maxRecDepth 100000 in
theorem xcw_6 : lw_tbl[737]? = some (xcw 6) := rfl
set_option maxRecDepth 100000 in
theorem xcw_7 : lw_tbl[733]? = some (xcw 7) := rfl
set_option maxRecDepth 100000 in
theorem xcw_8 : lw_tbl[139]? = some (xcw 8) := rfl
set_option maxRecDepth 100000 in
theorem xcw_9 : lw_tbl[750]? = some (xcw 9) := rfl
set_option maxRecDepth 100000 in
theorem xcw_10 : lw_tbl[555]? = some (xcw 10) := rfl
set_option maxRecDepth 100000 in
theorem xcw_11 : lw_tbl[514]? = some (xcw 11) := rfl
set_option maxRecDepth 100000 in
theorem xcw_12 : lw_tbl[518]? = some (xcw 12) := rfl
set_option maxRecDepth 100000 in
theorem xcw_13 : lw_tbl[523]? = some (xcw 13) := rfl
set_option maxRecDepth 100000 in
theorem xcw_14 : lw_tbl[505]? = some (xcw 14) := rfl
set_option maxRecDepth 100000 in
theorem xcw_15 : lw_tbl[528]? = some (xcw 15) := rfl
set_option maxRecDepth 100000 in
theorem xcw_16 : lw_tbl[562]? = some (xcw 16) := rfl
set_option maxRecDepth 100000 in
theorem xcw_17 : lw_tbl[545]? = some (xcw 17) := rfl
set_option maxRecDepth 100000 in
theorem xcw_18 : lw_tbl[552]? = some (xcw 18) := rfl
set_option maxRecDepth 100000 in
theorem xcw_19 : lw_tbl[606]? = some (xcw 19) := rfl
set_option maxRecDepth 100000 in
theorem xcw_20 : lw_tbl[815]? = some (xcw 20) := rfl
set_option maxRecDepth 100000 in
theorem xcw_21 : lw_tbl[62]? = some (xcw 21) := rfl
set_option maxRecDepth 100000 in
theorem xcw_22 : lw_tbl[292]? = some (xcw 22) := rfl
set_option maxRecDepth 100000 in
theorem xcw_23 : lw_tbl[310]? = some (xcw 23) := rfl
set_option maxRecDepth 100000 in
theorem xcw_24 : lw_tbl[375]? = some (xcw 24) := rfl
set_option maxRecDepth 100000 in
theorem xcw_25 : lw_tbl[472]? = some (xcw 25) := rfl
set_option maxRecDepth 100000 in
theorem xcw_26 : lw_tbl[438]? = some (xcw 26) := rfl
set_option maxRecDepth 100000 in
theorem xcw_27 : lw_tbl[696]? = some (xcw 27) := rfl
set_option maxRecDepth 100000 in
theorem xcw_28 : lw_tbl[371]? = some (xcw 28) := rfl
set_option maxRecDepth 100000 in
theorem xcw_29 : lw_tbl[573]? = some (xcw 29) := rfl
set_option maxRecDepth 100000 in
theorem xcw_30 : lw_tbl[729]? = some (xcw 30) := rfl
set_option maxRecDepth 100000 in
theorem xcw_31 : lw_tbl[721]? = some (xcw 31) := rfl
set_option maxRecDepth 100000 in
theorem xcw_32 : lw_tbl[725]? = some (xcw 32) := rfl
set_option maxRecDepth 100000 in
theorem xcw_33 : lw_tbl[599]? = some (xcw 33) := rfl
set_option maxRecDepth 100000 in
theorem xcw_34 : lw_tbl[384]? = some (xcw 34) := rfl
set_option maxRecDepth 100000 in
theorem xcw_35 : lw_tbl[650]? = some (xcw 35) := rfl
set_option maxRecDepth 100000 in
theorem xcw_36 : lw_tbl[654]? = some (xcw 36) := rfl
set_option maxRecDepth 100000 in
theorem xcw_37 : lw_tbl[634]? = some (xcw 37) := rfl
set_option maxRecDepth 100000 in
theorem xcw_38 : lw_tbl[642]? = some (xcw 38) := rfl
set_option maxRecDepth 100000 in
theorem xcw_39 : lw_tbl[638]? = some (xcw 39) := rfl
set_option maxRecDepth 100000 in
theorem xcw_40 : lw_tbl[379]? = some (xcw 40) := rfl
set_option maxRecDepth 100000 in
theorem xcw_41 : lw_tbl[646]? = some (xcw 41) := rfl
set_option maxRecDepth 100000 in
theorem xcw_42 : lw_tbl[397]? = some (xcw 42) := rfl
set_option maxRecDepth 100000 in
theorem xcw_43 : lw_tbl[411]? = some (xcw 43) := rfl
set_option maxRecDepth 100000 in
theorem xcw_44 : lw_tbl[419]? = some (xcw 44) := rfl
set_option maxRecDepth 100000 in
theorem xcw_45 : lw_tbl[428]? = some (xcw 45) := rfl
set_option maxRecDepth 100000 in
theorem xcw_46 : lw_tbl[445]? = some (xcw 46) := rfl
set_option maxRecDepth 100000 in
theorem xcw_47 : lw_tbl[264]? = some (xcw 47) := rfl
set_option maxRecDepth 100000 in
theorem xcw_48 : lw_tbl[322]? = some (xcw 48) := rfl
set_option maxRecDepth 100000 in
theorem xcw_49 : lw_tbl[407]? = some (xcw 49) := rfl
set_option maxRecDepth 100000 in
theorem xcw_50 : lw_tbl[404]? = some (xcw 50) := rfl
set_option maxRecDepth 100000 in
theorem xcw_51 : lw_tbl[448]? = some (xcw 51) := rfl
set_option maxRecDepth 100000 in
theorem xcw_52 : lw_tbl[133]? = some (xcw 52) := rfl
set_option maxRecDepth 100000 in
theorem xcw_53 : lw_tbl[541]? = some (xcw 53) := rfl
set_option maxRecDepth 100000 in
theorem xcw_54 : lw_tbl[501]? = some (xcw 54) := rfl
set_option maxRecDepth 100000 in
theorem xcw_55 : lw_tbl[776]? = some (xcw 55) := rfl
set_option maxRecDepth 100000 in
theorem xcw_56 : lw_tbl[510]? = some (xcw 56) := rfl
set_option maxRecDepth 100000 in
theorem xcw_57 : lw_tbl[747]? = some (xcw 57) := rfl
set_option maxRecDepth 100000 in
theorem xcw_58 : lw_tbl[533]? = some (xcw 58) := rfl
set_option maxRecDepth 100000 in
theorem xcw_59 : lw_tbl[114]? = some (xcw 59) := rfl
set_option maxRecDepth 100000 in
theorem xcw_60 : lw_tbl[684]? = some (xcw 60) := rfl
set_option maxRecDepth 100000 in
theorem xcw_61 : lw_tbl[346]? = some (xcw 61) := rfl
set_option maxRecDepth 100000 in
theorem xcw_62 : lw_tbl[330]? = some (xcw 62) := rfl
set_option maxRecDepth 100000 in
theorem xcw_63 : lw_tbl[709]? = some (xcw 63) := rfl
set_option maxRecDepth 100000 in
theorem xcw_64 : lw_tbl[326]? = some (xcw 64) := rfl
set_option maxRecDepth 100000 in
theorem xcw_65 : lw_tbl[679]? = some (xcw 65) := rfl
set_option maxRecDepth 100000 in
theorem xcw_66 : lw_tbl[339]? = some (xcw 66) := rfl
set_option maxRecDepth 100000 in
theorem xcw_67 : lw_tbl[52]? = some (xcw 67) := rfl
set_option maxRecDepth 100000 in
theorem xcw_68 : lw_tbl[190]? = some (xcw 68) := rfl
set_option maxRecDepth 100000 in
theorem xcw_69 : lw_tbl[691]? = some (xcw 69) := rfl
set_option maxRecDepth 100000 in
theorem xcw_70 : lw_tbl[713]? = some (xcw 70) := rfl
set_option maxRecDepth 100000 in
theorem xcw_71 : lw_tbl[700]? = some (xcw 71) := rfl
set_option maxRecDepth 100000 in
theorem xcw_72 : lw_tbl[705]? = some (xcw 72) := rfl
set_option maxRecDepth 100000 in
theorem xcw_73 : lw_tbl[770]? = some (xcw 73) := rfl
set_option maxRecDepth 100000 in
theorem xcw_74 : lw_tbl[359]? = some (xcw 74) := rfl
set_option maxRecDepth 100000 in
theorem xcw_75 : lw_tbl[569]? = some (xcw 75) := rfl
set_option maxRecDepth 100000 in
theorem xcw_76 : lw_tbl[590]? = some (xcw 76) := rfl
set_option maxRecDepth 100000 in
theorem xcw_77 : lw_tbl[717]? = some (xcw 77) := rfl
set_option maxRecDepth 100000 in
theorem xcw_78 : lw_tbl[743]? = some (xcw 78) := rfl
set_option maxRecDepth 100000 in
theorem xcw_79 : lw_tbl[595]? = some (xcw 79) := rfl
set_option maxRecDepth 100000 in
theorem xcw_80 : lw_tbl[756]? = some (xcw 80) := rfl
set_option maxRecDepth 100000 in
theorem xcw_81 : lw_tbl[611]? = some (xcw 81) := rfl
set_option maxRecDepth 100000 in
theorem xcw_82 : lw_tbl[268]? = some (xcw 82) := rfl
set_option maxRecDepth 100000 in
theorem xcw_83 : lw_tbl[297]? = some (xcw 83) := rfl
set_option maxRecDepth 100000 in
theorem xcw_84 : lw_tbl[762]? = some (xcw 84) := rfl
set_option maxRecDepth 100000 in
theorem xcw_85 : lw_tbl[658]? = some (xcw 85) := rfl
set_option maxRecDepth 100000 in
theorem xcw_86 : lw_tbl[314]? = some (xcw 86) := rfl
set_option maxRecDepth 100000 in
theorem xcw_87 : lw_tbl[795]? = some (xcw 87) := rfl
set_option maxRecDepth 100000 in
theorem xcw_88 : lw_tbl[789]? = some (xcw 88) := rfl
set_option maxRecDepth 100000 in
theorem xcw_89 : lw_tbl[811]? = some (xcw 89) := rfl
set_option maxRecDepth 100000 in
theorem xcw_90 : lw_tbl[799]? = some (xcw 90) := rfl
set_option maxRecDepth 100000 in
theorem xcw_91 : lw_tbl[804]? = some (xcw 91) := rfl
set_option maxRecDepth 100000 in
theorem xcw_92 : lw_tbl[193]? = some (xcw 92) := rfl
set_option maxRecDepth 100000 in
theorem xcw_93 : lw_tbl[362]? = some (xcw 93) := rfl
set_option maxRecDepth 100000 in
theorem xcw_94 : lw_tbl[300]? = some (xcw 94) := rfl
set_option maxRecDepth 100000 in
theorem xcw_95 : lw_tbl[614]? = some (xcw 95) := rfl
set_option maxRecDepth 100000 in
theorem xcw_96 : lw_tbl[366]? = some (xcw 96) := rfl
set_option maxRecDepth 100000 in
theorem xcw_97 : lw_tbl[272]? = some (xcw 97) := rfl
set_option maxRecDepth 100000 in
theorem xcw_98 : lw_tbl[305]? = some (xcw 98) := rfl
set_option maxRecDepth 100000 in
theorem xcw_99 : lw_tbl[318]? = some (xcw 99) := rfl
set_option maxRecDepth 100000 in
theorem xcw_100 : lw_tbl[488]? = some (xcw 100) := rfl
set_option maxRecDepth 100000 in
theorem xcw_101 : lw_tbl[492]? = some (xcw 101) := rfl
set_option maxRecDepth 100000 in
theorem xcw_102 : lw_tbl[468]? = some (xcw 102) := rfl
set_option maxRecDepth 100000 in
theorem xcw_103 : lw_tbl[477]? = some (xcw 103) := rfl
set_option maxRecDepth 100000 in
theorem xcw_104 : lw_tbl[537]? = some (xcw 104) := rfl
set_option maxRecDepth 100000 in
theorem xcw_105 : lw_tbl[480]? = some (xcw 105) := rfl
set_option maxRecDepth 100000 in
theorem xcw_106 : lw_tbl[577]? = some (xcw 106) := rfl
set_option maxRecDepth 100000 in
theorem xcw_107 : lw_tbl[663]? = some (xcw 107) := rfl
set_option maxRecDepth 100000 in
theorem xcw_108 : lw_tbl[671]? = some (xcw 108) := rfl
set_option maxRecDepth 100000 in
theorem xcw_109 : lw_tbl[497]? = some (xcw 109) := rfl
set_option maxRecDepth 100000 in
theorem xcw_110 : lw_tbl[583]? = some (xcw 110) := rfl
set_option maxRecDepth 100000 in
theorem xcw_111 : lw_tbl[389]? = some (xcw 111) := rfl
set_option maxRecDepth 100000 in
theorem xcw_112 : lw_tbl[602]? = some (xcw 112) := rfl
set_option maxRecDepth 100000 in
theorem xcw_113 : lw_tbl[452]? = some (xcw 113) := rfl
set_option maxRecDepth 100000 in
theorem xcw_114 : lw_tbl[687]? = some (xcw 114) := rfl
set_option maxRecDepth 100000 in
theorem xcw_115 : lw_tbl[355]? = some (xcw 115) := rfl
set_option maxRecDepth 100000 in
theorem xcw_116 : lw_tbl[349]? = some (xcw 116) := rfl
set_option maxRecDepth 100000 in
theorem xcw_117 : lw_tbl[766]? = some (xcw 117) := rfl
set_option maxRecDepth 100000 in
theorem xcw_118 : lw_tbl[779]? = some (xcw 118) := rfl
set_option maxRecDepth 100000 in
theorem xcw_119 : lw_tbl[784]? = some (xcw 119) := rfl
theorem xcw_all : xAll (fun j => xcw j ∈ lw_tbl) 120 := ⟨List.mem_of_getElem? xcw_119, List.mem_of_getElem? xcw_118, List.mem_of_getElem? xcw_117, List.mem_of_getElem? xcw_116, List.mem_of_getElem? xcw_115, List.mem_of_getElem? xcw_114, List.mem_of_getElem? xcw_113, List.mem_of_getElem? xcw_112, List.mem_of_getElem? xcw_111, List.mem_of_getElem? xcw_110, List.mem_of_getElem? xcw_109, List.mem_of_getElem? xcw_108, List.mem_of_getElem? xcw_107, List.mem_of_getElem? xcw_106, List.mem_of_getElem? xcw_105, List.mem_of_getElem? xcw_104, List.mem_of_getElem? xcw_103, List.mem_of_getElem? xcw_102, List.mem_of_getElem? xcw_101, List.mem_of_getElem? xcw_100, List.mem_of_getElem? xcw_99, List.mem_of_getElem? xcw_98, List.mem_of_getElem? xcw_97, List.mem_of_getElem? xcw_96, List.mem_of_getElem? xcw_95, List.mem_of_getElem? xcw_94, List.mem_of_getElem? xcw_93, List.mem_of_getElem? xcw_92, List.mem_of_getElem? xcw_91, List.mem_of_getElem? xcw_90, List.mem_of_getElem? xcw_89, List.mem_of_getElem? xcw_88, List.mem_of_getElem? xcw_87, List.mem_of_getElem? xcw_86, List.mem_of_getElem? xcw_85, List.mem_of_getElem? xcw_84, List.mem_of_getElem? xcw_83, List.mem_of_getElem? xcw_82, List.mem_of_getElem? xcw_81, List.mem_of_getElem? xcw_80, List.mem_of_getElem? xcw_79, List.mem_of_getElem? xcw_78, List.mem_of_getElem? xcw_77, List.mem_of_getElem? xcw_76, List.mem_of_getElem? xcw_75, List.mem_of_getElem? xcw_74, List.mem_of_getElem? xcw_73, List.mem_of_getElem? xcw_72, List.mem_of_getElem? xcw_71, List.mem_of_getElem? xcw_70, List.mem_of_getElem? xcw_69, List.mem_of_getElem? xcw_68, List.mem_of_getElem? xcw_67, List.mem_of_getElem? xcw_66, List.mem_of_getElem? xcw_65, List.mem_of_getElem? xcw_64, List.mem_of_getElem? xcw_63, List.mem_of_getElem? xcw_62, List.mem_of_getElem? xcw_61, List.mem_of_getElem? xcw_60, List.mem_of_getElem? xcw_59, List.mem_of_getElem? xcw_58, List.mem_of_getElem? xcw_57, List.mem_of_getElem? xcw_56, List.mem_of_getElem? xcw_55, List.mem_of_getElem? xcw_54, List.mem_of_getElem? xcw_53, List.mem_of_getElem? xcw_52, List.mem_of_getElem? xcw_51, List.mem_of_getElem? xcw_50, List.mem_of_getElem? xcw_49, List.mem_of_getElem? xcw_48, List.mem_of_getElem? xcw_47, List.mem_of_getElem? xcw_46, List.mem_of_getElem? xcw_45, List.mem_of_getElem? xcw_44, List.mem_of_getElem? xcw_43, List.mem_of_getElem? xcw_42, List.mem_of_getElem? xcw_41, List.mem_of_getElem? xcw_40, List.mem_of_getElem? xcw_39, List.mem_of_getElem? xcw_38, List.mem_of_getElem? xcw_37, List.mem_of_getElem? xcw_36, List.mem_of_getElem? xcw_35, List.mem_of_getElem? xcw_34, List.mem_of_getElem? xcw_33, List.mem_of_getElem? xcw_32, List.mem_of_getElem? xcw_31, List.mem_of_getElem? xcw_30, List.mem_of_getElem? xcw_29, List.mem_of_getElem? xcw_28, List.mem_of_getElem? xcw_27, List.mem_of_getElem? xcw_26, List.mem_of_getElem? xcw_25, List.mem_of_getElem? xcw_24, List.mem_of_getElem? xcw_23, List.mem_of_getElem? xcw_22, List.mem_of_getElem? xcw_21, List.mem_of_getElem? xcw_20, List.mem_of_getElem? xcw_19, List.mem_of_getElem? xcw_18, List.mem_of_getElem? xcw_17, List.mem_of_getElem? xcw_16, List.mem_of_getElem? xcw_15, List.mem_of_getElem? xcw_14, List.mem_of_getElem? xcw_13, List.mem_of_getElem? xcw_12, List.mem_of_getElem? xcw_11, List.mem_of_getElem? xcw_10, List.mem_of_getElem? xcw_9, List.mem_of_getElem? xcw_8, List.mem_of_getElem? xcw_7, List.mem_of_getElem? xcw_6, List.mem_of_getElem? xcw_5, List.mem_of_getElem? xcw_4, List.mem_of_getElem? xcw_3, List.mem_of_getElem? xcw_2, List.mem_of_getElem? xcw_1, List.mem_of_getElem? xcw_0, trivial⟩
theorem xcw_in (j : Nat) (h : j + 1 < xNM) : xcw j ∈ lw_tbl := xAll_get xcw_all j (by unfold xNM at h; omega)
theorem xci_ok : ∀ j, j < 120 → lw_tbl[xcip.getD j 0]? = some (.initialized (xy j).cls) := by decide +kernel
theorem xci_in (j : Nat) (h : j + 1 < xNM) : Cond.initialized (xy j).cls ∈ lw_tbl := List.mem_of_getElem? (xci_ok j (by unfold xNM at h; omega))
theorem xcw_ok2 : ∀ j, j < 120 → plainName (xy j).cls = true ∧ ((xy j).cls ≠ "java/lang/invoke/MethodHandle" ∧ (xy j).cls ≠ "java/lang/invoke/VarHandle") ∧ xml j ≤ 41 := by decide +kernel
theorem xcw_ok3 : ∀ j, j < 120 → (parseMethodDescriptor (xy j).desc).map (fun d => d.parameters.length) = some (xn j) := by decide +kernel
theorem xMMp_ok : ∀ q ∈ xMMp, lw_tbl[q.2.2.2]? = some (.methodLink (xcn q.1) q.2.1 (match q.2.2.1 with
  | 1 => Lib.Math.max.name
  | 2 => Lib.Math.min.name
  | 3 => Lib.MathLoose.max_long.x
  | _ => Lib.MathLoose.min_long.x)) := by decide +kernel
set_option maxRecDepth 100000 in
theorem xmm_s1 : lw_tbl[142]? = some (.static Lib.Math.max.name) := rfl
set_option maxRecDepth 100000 in
theorem xmm_c1 : lw_tbl[143]? = some (.code Lib.Math.max.name Lib.Math.max.code 2 (some .int)) := rfl
set_option maxRecDepth 100000 in
theorem xmm_s2 : lw_tbl[334]? = some (.static Lib.Math.min.name) := rfl
set_option maxRecDepth 100000 in
theorem xmm_c2 : lw_tbl[335]? = some (.code Lib.Math.min.name Lib.Math.min.code 2 (some .int)) := rfl
set_option maxRecDepth 100000 in
theorem xmm_s3 : lw_tbl[666]? = some (.static Lib.MathLoose.max_long.x) := rfl
set_option maxRecDepth 100000 in
theorem xmm_c3 : lw_tbl[667]? = some (.code Lib.MathLoose.max_long.x Lib.MathLoose.max_long.code 4 (some .long)) := rfl
set_option maxRecDepth 100000 in
theorem xmm_s4 : lw_tbl[674]? = some (.static Lib.MathLoose.min_long.x) := rfl
set_option maxRecDepth 100000 in
theorem xmm_c4 : lw_tbl[675]? = some (.code Lib.MathLoose.min_long.x Lib.MathLoose.min_long.code 4 (some .long)) := rfl
set_option maxRecDepth 100000 in
theorem xmm_i : lw_tbl[36]? = some (.initialized "java/lang/Math") := rfl
set_option maxRecDepth 100000 in
theorem xOI_ok : ∀ q ∈ xOIp, lw_tbl[q.2.2]? = some (.methodLink (xcn q.1) q.2.1 objectInit) := by decide +kernel
theorem xOI_i : lw_tbl[54]? = some (.instanceMethod objectInit) := rfl
theorem xOI_c : lw_tbl[55]? = some (.code objectInit ⟨#[0xb1]⟩ 1 none) := rfl
theorem xOI_eq : xOI = xOIp.map (fun q => (q.1, q.2.1)) := by decide +kernel
theorem xNS_ok : ∀ q ∈ xNSp, lw_tbl[q.2.2.2]? = some (.instanceMethod (xy q.2.2.1)) ∧ (xy q.2.2.1).name = "<init>" ∧ xr q.2.2.1 = none ∧ q.2.2.1 + 1 < xNM ∧ xhr q.2.2.1 = [] := by decide +kernel
theorem xNS_eq : xNS = xNSp.map (fun q => (q.1, q.2.1, q.2.2.1)) := by decide +kernel
set_option maxRecDepth 100000 in
theorem xAC_l : lw_tbl[461]? = some (.methodLink (xcn 9) 150 arraycopyName) := rfl
set_option maxRecDepth 100000 in
theorem xAC_n : lw_tbl[463]? = some (.native arraycopyName) := rfl
set_option maxRecDepth 100000 in
theorem xAC_s : lw_tbl[462]? = some (.static arraycopyName) := rfl
set_option maxRecDepth 100000 in
theorem xAC_i : lw_tbl[45]? = some (.initialized "java/lang/System") := rfl
