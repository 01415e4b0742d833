/-! what the start gives: the places of the words in the two lists -/
def nwL : List Jvm.Cond := flatC (Jvm.Cond.and given_1 narrow_1)
def nwChk : List Jvm.Cond → List Nat → Bool
  | [], _ => true
  | w :: t, q :: r => decide (nwL[q]? = some w) && nwChk t r
  | _ :: _, [] => false
theorem nwChk_in : ∀ {L : List Jvm.Cond} {ix : List Nat}, nwChk L ix = true → ∀ w ∈ L, w ∈ nwL
  | [], _, _, w, hw => absurd hw List.not_mem_nil
  | _ :: _, [], h, _, _ => absurd h Bool.false_ne_true
  | x :: t, q :: r, h, w, hw => by
    unfold nwChk at h
    obtain ⟨h1, h2⟩ := Bool.and_eq_true_iff.mp h
    rcases List.mem_cons.mp hw with rfl | hw
    · exact List.mem_of_getElem? (of_decide_eq_true h1)
    · exact nwChk_in h2 w hw
/-- what is said of a constant text -/
def yTx (C : String) (idx : Nat) (cs : List Int32) : List Jvm.Cond := .exactly (.string C idx) "java/lang/String" :: .eq (.field (.string C idx) "java/lang/String" "code\x72" "B") (.int 0) :: .arrayOf (.field (.string C idx) "java/lang/String" "value" "[B") .byte :: .eq (.length (.field (.string C idx) "java/lang/String" "value" "[B")) (.int (Int32.ofNat cs.length)) :: (List.range cs.length).map fun j => .eq (.elem (.field (.string C idx) "java/lang/String" "value" "[B") (.int (Int32.ofNat j))) (.int (cs.getD j 0))
def yTxs : List String := [";", "step", "road", "charge", "crates", "price", "birds", "frost", "day", "at", "credit", "kind", "fresh", "note", "dog", "long", "bird", "break", "sou\x72", "if", "o\x72", "and", "not", "(", ")", "noted", "<", ">", "+", "corne\x72", "old", "dry", "week"]
/-- owner, entry, text, places -/
def yTi : List (Nat × Nat × Nat × List Nat) := [
  (8, 21, 0, [217, 218, 219, 220, 221]),
  (8, 60, 1, [91, 92, 93, 94, 95, 96, 97, 98]),
  (8, 75, 2, [147, 148, 149, 150, 151, 152, 153, 154]),
  (8, 85, 3, [163, 164, 165, 166, 167, 168, 169, 170, 171, 172]),
  (8, 89, 4, [173, 174, 175, 176, 177, 178, 179, 180, 181, 182]),
  (8, 93, 5, [183, 184, 185, 186, 187, 188, 189, 190, 191]),
  (8, 97, 6, [192, 193, 194, 195, 196, 197, 198, 199, 200]),
  (8, 101, 7, [201, 202, 203, 204, 205, 206, 207, 208, 209]),
  (8, 105, 8, [210, 211, 212, 213, 214, 215, 216]),
  (8, 116, 9, [99, 100, 101, 102, 103, 104]),
  (8, 122, 10, [105, 106, 107, 108, 109, 110, 111, 112, 113, 114]),
  (8, 128, 11, [115, 116, 117, 118, 119, 120, 121, 122]),
  (8, 130, 12, [123, 124, 125, 126, 127, 128, 129, 130, 131]),
  (8, 132, 13, [132, 133, 134, 135, 136, 137, 138, 139]),
  (8, 134, 14, [140, 141, 142, 143, 144, 145, 146]),
  (8, 136, 15, [155, 156, 157, 158, 159, 160, 161, 162]),
  (8, 45, 19, [290, 291, 292, 293, 294, 295]),
  (8, 152, 20, [376, 377, 378, 379, 380, 381]),
  (8, 161, 21, [369, 370, 371, 372, 373, 374, 375]),
  (8, 163, 22, [296, 297, 298, 299, 300, 301, 302]),
  (8, 165, 23, [303, 304, 305, 306, 307]),
  (8, 167, 24, [308, 309, 310, 311, 312]),
  (8, 172, 25, [313, 314, 315, 316, 317, 318, 319, 320, 321]),
  (8, 178, 26, [359, 360, 361, 362, 363]),
  (8, 180, 27, [364, 365, 366, 367, 368]),
  (8, 185, 28, [354, 355, 356, 357, 358]),
  (8, 190, 29, [322, 323, 324, 325, 326, 327, 328, 329, 330, 331]),
  (8, 192, 30, [332, 333, 334, 335, 336, 337, 338]),
  (8, 194, 31, [339, 340, 341, 342, 343, 344, 345]),
  (8, 196, 32, [346, 347, 348, 349, 350, 351, 352, 353]),
  (12, 140, 9, [693, 694, 695, 696, 697, 698]),
  (12, 145, 10, [700, 701, 702, 703, 704, 705, 706, 707, 708, 709]),
  (12, 147, 11, [711, 712, 713, 714, 715, 716, 717, 718]),
  (12, 153, 12, [720, 721, 722, 723, 724, 725, 726, 727, 728]),
  (12, 155, 13, [730, 731, 732, 733, 734, 735, 736, 737]),
  (12, 157, 14, [739, 740, 741, 742, 743, 744, 745]),
  (12, 159, 15, [756, 757, 758, 759, 760, 761, 762, 763]),
  (12, 161, 1, [684, 685, 686, 687, 688, 689, 690, 691]),
  (12, 167, 2, [747, 748, 749, 750, 751, 752, 753, 754]),
  (12, 172, 3, [765, 766, 767, 768, 769, 770, 771, 772, 773, 774]),
  (12, 177, 4, [776, 777, 778, 779, 780, 781, 782, 783, 784, 785]),
  (12, 179, 5, [787, 788, 789, 790, 791, 792, 793, 794, 795]),
  (12, 181, 6, [797, 798, 799, 800, 801, 802, 803, 804, 805]),
  (12, 183, 7, [807, 808, 809, 810, 811, 812, 813, 814, 815]),
  (12, 185, 8, [817, 818, 819, 820, 821, 822, 823]),
  (12, 190, 29, [878, 879, 880, 881, 882, 883, 884, 885, 886, 887]),
  (12, 192, 30, [889, 890, 891, 892, 893, 894, 895]),
  (12, 194, 31, [897, 898, 899, 900, 901, 902, 903]),
  (12, 196, 32, [905, 906, 907, 908, 909, 910, 911, 912]),
  (12, 212, 25, [868, 869, 870, 871, 872, 873, 874, 875, 876]),
  (12, 220, 22, [860, 861, 862, 863, 864, 865, 866]),
  (12, 231, 21, [914, 915, 916, 917, 918, 919, 920]),
  (12, 236, 20, [922, 923, 924, 925, 926, 927]),
  (12, 238, 16, [825, 826, 827, 828, 829, 830, 831, 832]),
  (12, 240, 17, [834, 835, 836, 837, 838, 839, 840, 841, 842]),
  (12, 242, 18, [844, 845, 846, 847, 848, 849, 850, 851]),
  (12, 244, 19, [853, 854, 855, 856, 857, 858]),
  (8, 143, 16, [265, 266, 267, 268, 269, 270, 271, 272]),
  (8, 145, 17, [273, 274, 275, 276, 277, 278, 279, 280, 281]),
  (8, 147, 18, [282, 283, 284, 285, 286, 287, 288, 289])]
set_option maxRecDepth 100000 in
theorem yTi_ok : (yTi.all fun q => nwChk (yTx (zOwn q.1) q.2.1 (zTxt.getD q.2.2.1 [])) q.2.2.2) = true := by decide +kernel
set_option maxRecDepth 100000 in
theorem yTs_ok : lwChk (yTi.map fun q => .stringRef (zOwn q.1) q.2.1 (yTxs.getD q.2.2.1 "")) [(4, 144), (4, 40), (4, 128), (4, 137), (4, 138), (4, 139), (4, 140), (4, 141), (4, 142), (4, 105), (4, 118), (4, 120), (4, 125), (4, 126), (4, 127), (4, 132), (5, 33), (5, 69), (5, 68), (5, 43), (5, 44), (5, 49), (5, 53), (5, 66), (5, 67), (5, 65), (5, 61), (5, 62), (5, 63), (5, 64), (7, 183), (7, 192), (7, 193), (7, 202), (7, 203), (7, 207), (7, 213), (7, 168), (7, 208), (7, 214), (7, 219), (7, 220), (7, 221), (7, 222), (7, 223), (8, 30), (8, 31), (8, 32), (8, 33), (8, 17), (8, 8), (8, 34), (8, 35), (7, 228), (7, 229), (7, 230), (7, 231), (5, 26), (5, 27), (5, 28)] = true := by decide +kernel
def yMt : List (Nat × String) := [(98, "the text is wrong"), (112, "there are 12 texts"), (154, "no such what"), (190, "no such number of mornings"), (208, "nobody pays so much"), (236, "no such charge"), (241, "no such crates"), (248, "no bottle can be lent"), (323, "the tape is not that"), (349, "no such number of bottles"), (370, "no such number of days"), (421, "no such step"), (424, "no such corne\x72"), (426, "no such kind"), (428, "no such day of the week"), (430, "both are one")]
set_option maxRecDepth 100000 in
theorem yMt_ok : yMt.map (·.1) = zMsg ∧ lwChk (yMt.map fun q => .stringRef "MilkDays" q.1 q.2) [(4, 197), (4, 233), (5, 113), (5, 171), (5, 210), (6, 20), (6, 28), (6, 46), (6, 104), (6, 149), (6, 77), (5, 97), (5, 148), (5, 237), (5, 222), (6, 8)] = true ∧ nwChk (yMt.map fun q => .exactly (.string "MilkDays" q.1) "java/lang/String") [222, 243, 398, 432, 462, 544, 562, 580, 631, 655, 605, 382, 414, 512, 485, 528] = true := by decide +kernel
set_option maxRecDepth 100000 in
theorem yCa_ok : lwChk (yExs.map fun q => .castable q.2.1 q.2.1) [(4, 156), (5, 90), (6, 39), (4, 226), (5, 106)] = true ∧ lwChk (yDn.map fun c => .declares (Bundle.initS c)) [(4, 158), (4, 160), (4, 162)] = true := by decide +kernel
def yPr : List (String × String) := (yExs.map fun q => (yExs.filter fun q2 => decide (q.1 ≠ q2.1)).map fun q2 => (q.2.1, q2.2.1)).flatten
set_option maxRecDepth 100000 in
theorem yPr_ok : nwChk (yPr.map fun q => .not (.castable q.1 q.2)) [55, 87, 39, 71, 24, 89, 40, 73, 26, 58, 42, 74, 23, 56, 88, 72, 25, 57, 90, 41] = true := by decide +kernel
set_option maxRecDepth 100000 in
theorem ySo_ok : lwChk [.laysStatic "java/lang/String" "COMPACT_STRINGS" "Z", .laysStatic "jdk/internal/util/Preconditions" "SIOOBE_FORMATTER" "Ljava/util/function/BiFunction;", .laysStatic "java/lang/Throwable" "UNASSIGNED_STACK" "[Ljava/lang/StackTraceElement;", .laysStatic "java/lang/Throwable" "SUPPRESSED_SENTINEL" "Ljava/util/List;", .initialized "java/lang/String", .initialized "jdk/internal/util/Preconditions", .initialized "java/lang/Throwable"] [(4, 54), (4, 70), (4, 181), (4, 183), (1, 17), (1, 19), (1, 21)] = true ∧ nwChk [.eq (.static "java/lang/String" "COMPACT_STRINGS" "Z") (.int 1), .isRef (.static "jdk/internal/util/Preconditions" "SIOOBE_FORMATTER" "Ljava/util/function/BiFunction;"), .isRef (.static "java/lang/Throwable" "UNASSIGNED_STACK" "[Ljava/lang/StackTraceElement;"), .isRef (.static "java/lang/Throwable" "SUPPRESSED_SENTINEL" "Ljava/util/List;")] [4, 5, 9, 10] = true := by decide +kernel
set_option maxRecDepth 100000 in
theorem yNs_ok : lwChk ((.arrayOver (.object RX1)) :: bNs.map fun q => .methodLinkNest (zOwn q.1) q.2.1 (bY q.2.2) RX11) [(2, 24), (1, 78), (1, 72), (1, 175), (1, 210), (1, 40), (1, 66), (2, 27), (2, 40), (2, 50), (2, 72)] = true := by decide +kernel
set_option maxRecDepth 100000 in
theorem yIi_ok : ((List.range 12).all fun a => decide (.instantiable (bCn a) (zFk a).length ∈ bWd)) = true ∧ (.arrayClass .int ∈ bWd) ∧ (.arrayClass .byte ∈ bWd) ∧ (.arrayClass .long ∈ bWd) := by decide +kernel
