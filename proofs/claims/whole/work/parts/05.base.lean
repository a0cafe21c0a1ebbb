/-! ===== the words that every contract carries ===== -/
def ws0 : List Cond := lw_tbl.filter goodWord
theorem ws0_of {w : Cond} (i : Nat) (h : lw_tbl[i]? = some w) (g : goodWord w = true) : w ∈ ws0 := List.mem_filter.mpr ⟨List.mem_of_getElem? h, g⟩
theorem ws0_self : GoodIn ws0 ws0 := fun _ h => ⟨h, good_of_word (List.mem_filter.mp h).2⟩
abbrev WSM (y : MethodName) (cc : ByteArray) (n : Nat) (ret : Option FieldType) : List Cond := Cond.code y cc n ret :: ws0
theorem WSM_good {y : MethodName} {cc : ByteArray} {n : Nat} {ret : Option FieldType} (h : Cond.code y cc n ret ∈ ws0) : GoodIn ws0 (WSM y cc n ret) := by
  intro w hw
  rcases List.mem_cons.mp hw with rfl | hw
  · exact ws0_self _ h
  · exact ws0_self _ hw
/-! ===== the heap's layout: what each object is, how long a row is, where it points ===== -/
def KDL : List Nat := [10, 9, 20, 20, 20, 20, 20, 20, 20, 20, 20, 20, 24, 2, 20, 20, 20, 7, 20, 7, 20, 27, 6, 6, 6, 6, 2, 20, 20, 20, 7, 20, 7, 20, 27, 6, 6, 6, 6, 23, 7, 20, 7, 20, 7, 20, 7, 20, 7, 20, 7, 20, 26, 8, 7, 20, 7, 20, 7, 20, 7, 20, 8, 7, 20, 7, 20, 7, 20, 7, 20, 8, 7, 20, 7, 20, 7, 20, 7, 20, 8, 7, 20, 7, 20, 7, 20, 7, 20, 8, 7, 20, 7, 20, 7, 20, 7, 20, 8, 7, 20, 7, 20, 7, 20, 7, 20, 8, 7, 20, 7, 20, 7, 20, 7, 20, 8, 7, 20, 7, 20, 7, 20, 7, 20, 25, 9, 20, 20, 20, 20, 20, 20, 20, 20, 20, 20, 24, 2, 20, 20, 20, 7, 20, 7, 20, 27, 6, 6, 6, 6, 2, 20, 20, 20, 7, 20, 7, 20, 27, 6, 6, 6, 6, 23, 7, 20, 7, 20, 7, 20, 7, 20, 7, 20, 7, 20, 26, 8, 7, 20, 7, 20, 7, 20, 7, 20, 8, 7, 20, 7, 20, 7, 20, 7, 20, 8, 7, 20, 7, 20, 7, 20, 7, 20, 8, 7, 20, 7, 20, 7, 20, 7, 20, 8, 7, 20, 7, 20, 7, 20, 7, 20, 8, 7, 20, 7, 20, 7, 20, 7, 20, 8, 7, 20, 7, 20, 7, 20, 7, 20, 8, 7, 20, 7, 20, 7, 20, 7, 20, 9, 20, 20, 20, 20, 20, 20, 20, 20, 20, 20, 24, 2, 20, 20, 20, 7, 20, 7, 20, 27, 6, 6, 6, 6, 2, 20, 20, 20, 7, 20, 7, 20, 27, 6, 6, 6, 6, 23, 7, 20, 7, 20, 7, 20, 7, 20, 7, 20, 7, 20, 26, 8, 7, 20, 7, 20, 7, 20, 7, 20, 8, 7, 20, 7, 20, 7, 20, 7, 20, 8, 7, 20, 7, 20, 7, 20, 7, 20, 8, 7, 20, 7, 20, 7, 20, 7, 20, 8, 7, 20, 7, 20, 7, 20, 7, 20, 8, 7, 20, 7, 20, 7, 20, 7, 20, 8, 7, 20, 7, 20, 7, 20, 7, 20, 8, 7, 20, 7, 20, 7, 20, 7, 20, 9, 20, 20, 20, 20, 20, 20, 20, 20, 20, 20, 24, 2, 20, 20, 20, 7, 20, 7, 20, 27, 6, 6, 6, 6, 2, 20, 20, 20, 7, 20, 7, 20, 27, 6, 6, 6, 6, 23, 7, 20, 7, 20, 7, 20, 7, 20, 7, 20, 7, 20, 26, 8, 7, 20, 7, 20, 7, 20, 7, 20, 8, 7, 20, 7, 20, 7, 20, 7, 20, 8, 7, 20, 7, 20, 7, 20, 7, 20, 8, 7, 20, 7, 20, 7, 20, 7, 20, 8, 7, 20, 7, 20, 7, 20, 7, 20, 8, 7, 20, 7, 20, 7, 20, 7, 20, 8, 7, 20, 7, 20, 7, 20, 7, 20, 8, 7, 20, 7, 20, 7, 20, 7, 20, 9, 20, 20, 20, 20, 20, 20, 20, 20, 20, 20, 24, 2, 20, 20, 20, 7, 20, 7, 20, 27, 6, 6, 6, 6, 2, 20, 20, 20, 7, 20, 7, 20, 27, 6, 6, 6, 6, 23, 7, 20, 7, 20, 7, 20, 7, 20, 7, 20, 7, 20, 26, 8, 7, 20, 7, 20, 7, 20, 7, 20, 8, 7, 20, 7, 20, 7, 20, 7, 20, 8, 7, 20, 7, 20, 7, 20, 7, 20, 8, 7, 20, 7, 20, 7, 20, 7, 20, 8, 7, 20, 7, 20, 7, 20, 7, 20, 8, 7, 20, 7, 20, 7, 20, 7, 20, 8, 7, 20, 7, 20, 7, 20, 7, 20, 8, 7, 20, 7, 20, 7, 20, 7, 20, 23, 7, 20, 7, 20, 7, 20, 7, 20, 7, 20, 7, 20, 7, 20, 7, 20, 1, 7, 20, 7, 20, 7, 20, 7, 20, 7, 20, 3, 7, 20, 7, 20, 7, 20, 7, 20, 7, 20, 7, 20, 7, 20, 7, 20, 7, 20, 7, 20, 7, 20, 0, 5, 7, 20, 7, 20, 7, 20, 7, 20, 5, 7, 20, 7, 20, 7, 20, 7, 20, 4, 7, 20, 7, 20, 7, 20, 7, 20, 7, 20, 7, 20, 7, 20, 7, 20, 7, 20, 7, 20, 11, 20, 20, 20, 20, 20, 20, 20, 20, 20, 20, 20, 20, 20, 20, 20, 20, 20, 20, 20, 21, 20, 20, 20, 20, 20, 21, 21, 20, 20, 21, 21, 20, 22]
def LENL : List Nat := [0, 0, 96, 96, 96, 96, 96, 96, 96, 96, 96, 96, 2, 0, 102, 102, 102, 0, 6, 0, 6, 4, 0, 0, 0, 0, 0, 102, 102, 102, 0, 6, 0, 6, 4, 0, 0, 0, 0, 6, 0, 8, 0, 8, 0, 8, 0, 8, 0, 8, 0, 8, 8, 0, 0, 2, 0, 3, 0, 2, 0, 3, 0, 0, 2, 0, 3, 0, 2, 0, 3, 0, 0, 2, 0, 3, 0, 2, 0, 3, 0, 0, 2, 0, 3, 0, 2, 0, 3, 0, 0, 2, 0, 3, 0, 2, 0, 3, 0, 0, 2, 0, 3, 0, 2, 0, 3, 0, 0, 2, 0, 3, 0, 2, 0, 3, 0, 0, 2, 0, 3, 0, 2, 0, 3, 4, 0, 96, 96, 96, 96, 96, 96, 96, 96, 96, 96, 2, 0, 102, 102, 102, 0, 6, 0, 6, 4, 0, 0, 0, 0, 0, 102, 102, 102, 0, 6, 0, 6, 4, 0, 0, 0, 0, 6, 0, 8, 0, 8, 0, 8, 0, 8, 0, 8, 0, 8, 8, 0, 0, 2, 0, 3, 0, 2, 0, 3, 0, 0, 2, 0, 3, 0, 2, 0, 3, 0, 0, 2, 0, 3, 0, 2, 0, 3, 0, 0, 2, 0, 3, 0, 2, 0, 3, 0, 0, 2, 0, 3, 0, 2, 0, 3, 0, 0, 2, 0, 3, 0, 2, 0, 3, 0, 0, 2, 0, 3, 0, 2, 0, 3, 0, 0, 2, 0, 3, 0, 2, 0, 3, 0, 96, 96, 96, 96, 96, 96, 96, 96, 96, 96, 2, 0, 102, 102, 102, 0, 6, 0, 6, 4, 0, 0, 0, 0, 0, 102, 102, 102, 0, 6, 0, 6, 4, 0, 0, 0, 0, 6, 0, 8, 0, 8, 0, 8, 0, 8, 0, 8, 0, 8, 8, 0, 0, 2, 0, 3, 0, 2, 0, 3, 0, 0, 2, 0, 3, 0, 2, 0, 3, 0, 0, 2, 0, 3, 0, 2, 0, 3, 0, 0, 2, 0, 3, 0, 2, 0, 3, 0, 0, 2, 0, 3, 0, 2, 0, 3, 0, 0, 2, 0, 3, 0, 2, 0, 3, 0, 0, 2, 0, 3, 0, 2, 0, 3, 0, 0, 2, 0, 3, 0, 2, 0, 3, 0, 96, 96, 96, 96, 96, 96, 96, 96, 96, 96, 2, 0, 102, 102, 102, 0, 6, 0, 6, 4, 0, 0, 0, 0, 0, 102, 102, 102, 0, 6, 0, 6, 4, 0, 0, 0, 0, 6, 0, 8, 0, 8, 0, 8, 0, 8, 0, 8, 0, 8, 8, 0, 0, 2, 0, 3, 0, 2, 0, 3, 0, 0, 2, 0, 3, 0, 2, 0, 3, 0, 0, 2, 0, 3, 0, 2, 0, 3, 0, 0, 2, 0, 3, 0, 2, 0, 3, 0, 0, 2, 0, 3, 0, 2, 0, 3, 0, 0, 2, 0, 3, 0, 2, 0, 3, 0, 0, 2, 0, 3, 0, 2, 0, 3, 0, 0, 2, 0, 3, 0, 2, 0, 3, 0, 96, 96, 96, 96, 96, 96, 96, 96, 96, 96, 2, 0, 102, 102, 102, 0, 6, 0, 6, 4, 0, 0, 0, 0, 0, 102, 102, 102, 0, 6, 0, 6, 4, 0, 0, 0, 0, 6, 0, 8, 0, 8, 0, 8, 0, 8, 0, 8, 0, 8, 8, 0, 0, 2, 0, 3, 0, 2, 0, 3, 0, 0, 2, 0, 3, 0, 2, 0, 3, 0, 0, 2, 0, 3, 0, 2, 0, 3, 0, 0, 2, 0, 3, 0, 2, 0, 3, 0, 0, 2, 0, 3, 0, 2, 0, 3, 0, 0, 2, 0, 3, 0, 2, 0, 3, 0, 0, 2, 0, 3, 0, 2, 0, 3, 0, 0, 2, 0, 3, 0, 2, 0, 3, 6, 0, 40, 0, 40, 0, 40, 0, 40, 0, 40, 0, 40, 0, 160, 0, 200, 0, 0, 81, 0, 2, 0, 80, 0, 80, 0, 40, 0, 0, 40, 0, 41, 0, 41, 0, 41, 0, 40, 0, 40, 0, 40, 0, 40, 0, 40, 0, 40, 0, 40, 0, 0, 0, 8, 0, 8, 0, 8, 0, 96, 0, 0, 8, 0, 8, 0, 8, 0, 96, 0, 0, 4, 0, 4, 0, 200, 0, 80, 0, 80, 0, 80, 0, 80, 0, 242, 0, 40, 0, 40, 0, 1740, 6960, 240, 6, 160, 200, 100, 100, 40, 40, 40, 40, 40, 41, 41, 41, 41, 40, 40, 41, 250, 250, 8, 8, 8, 41, 41, 40, 7, 7, 7, 4, 1]
def RVL : List (List Nat) := [[1, 125, 0, 622, 635, 637, 639, 650, 673, 674, 683, 0, 692, 699, 701, 703, 705, 707, 709, 711], [2, 3, 4, 5, 6, 7, 8, 9, 10, 11, 12, 39, 0, 52], [], [], [], [], [], [], [], [], [], [], [13, 26], [14, 15, 16, 17, 19, 21], [], [], [], [18], [], [20], [], [22, 23, 24, 25], [], [], [], [], [27, 28, 29, 30, 32, 34], [], [], [], [31], [], [33], [], [35, 36, 37, 38], [], [], [], [], [40, 42, 44, 46, 48, 50], [41], [], [43], [], [45], [], [47], [], [49], [], [51], [], [53, 62, 71, 80, 89, 98, 107, 116], [0, 54, 56, 58, 60], [55], [], [57], [], [59], [], [61], [], [0, 63, 65, 67, 69], [64], [], [66], [], [68], [], [70], [], [0, 72, 74, 76, 78], [73], [], [75], [], [77], [], [79], [], [0, 81, 83, 85, 87], [82], [], [84], [], [86], [], [88], [], [0, 90, 92, 94, 96], [91], [], [93], [], [95], [], [97], [], [0, 99, 101, 103, 105], [100], [], [102], [], [104], [], [106], [], [0, 108, 110, 112, 114], [109], [], [111], [], [113], [], [115], [], [0, 117, 119, 121, 123], [118], [], [120], [], [122], [], [124], [], [126, 250, 374, 498], [127, 128, 129, 130, 131, 132, 133, 134, 135, 136, 137, 164, 0, 177], [], [], [], [], [], [], [], [], [], [], [138, 151], [139, 140, 141, 142, 144, 146], [], [], [], [143], [], [145], [], [147, 148, 149, 150], [], [], [], [], [152, 153, 154, 155, 157, 159], [], [], [], [156], [], [158], [], [160, 161, 162, 163], [], [], [], [], [165, 167, 169, 171, 173, 175], [166], [], [168], [], [170], [], [172], [], [174], [], [176], [], [178, 187, 196, 205, 214, 223, 232, 241], [0, 179, 181, 183, 185], [180], [], [182], [], [184], [], [186], [], [0, 188, 190, 192, 194], [189], [], [191], [], [193], [], [195], [], [0, 197, 199, 201, 203], [198], [], [200], [], [202], [], [204], [], [0, 206, 208, 210, 212], [207], [], [209], [], [211], [], [213], [], [0, 215, 217, 219, 221], [216], [], [218], [], [220], [], [222], [], [0, 224, 226, 228, 230], [225], [], [227], [], [229], [], [231], [], [0, 233, 235, 237, 239], [234], [], [236], [], [238], [], [240], [], [0, 242, 244, 246, 248], [243], [], [245], [], [247], [], [249], [], [251, 252, 253, 254, 255, 256, 257, 258, 259, 260, 261, 288, 0, 301], [], [], [], [], [], [], [], [], [], [], [262, 275], [263, 264, 265, 266, 268, 270], [], [], [], [267], [], [269], [], [271, 272, 273, 274], [], [], [], [], [276, 277, 278, 279, 281, 283], [], [], [], [280], [], [282], [], [284, 285, 286, 287], [], [], [], [], [289, 291, 293, 295, 297, 299], [290], [], [292], [], [294], [], [296], [], [298], [], [300], [], [302, 311, 320, 329, 338, 347, 356, 365], [0, 303, 305, 307, 309], [304], [], [306], [], [308], [], [310], [], [0, 312, 314, 316, 318], [313], [], [315], [], [317], [], [319], [], [0, 321, 323, 325, 327], [322], [], [324], [], [326], [], [328], [], [0, 330, 332, 334, 336], [331], [], [333], [], [335], [], [337], [], [0, 339, 341, 343, 345], [340], [], [342], [], [344], [], [346], [], [0, 348, 350, 352, 354], [349], [], [351], [], [353], [], [355], [], [0, 357, 359, 361, 363], [358], [], [360], [], [362], [], [364], [], [0, 366, 368, 370, 372], [367], [], [369], [], [371], [], [373], [], [375, 376, 377, 378, 379, 380, 381, 382, 383, 384, 385, 412, 0, 425], [], [], [], [], [], [], [], [], [], [], [386, 399], [387, 388, 389, 390, 392, 394], [], [], [], [391], [], [393], [], [395, 396, 397, 398], [], [], [], [], [400, 401, 402, 403, 405, 407], [], [], [], [404], [], [406], [], [408, 409, 410, 411], [], [], [], [], [413, 415, 417, 419, 421, 423], [414], [], [416], [], [418], [], [420], [], [422], [], [424], [], [426, 435, 444, 453, 462, 471, 480, 489], [0, 427, 429, 431, 433], [428], [], [430], [], [432], [], [434], [], [0, 436, 438, 440, 442], [437], [], [439], [], [441], [], [443], [], [0, 445, 447, 449, 451], [446], [], [448], [], [450], [], [452], [], [0, 454, 456, 458, 460], [455], [], [457], [], [459], [], [461], [], [0, 463, 465, 467, 469], [464], [], [466], [], [468], [], [470], [], [0, 472, 474, 476, 478], [473], [], [475], [], [477], [], [479], [], [0, 481, 483, 485, 487], [482], [], [484], [], [486], [], [488], [], [0, 490, 492, 494, 496], [491], [], [493], [], [495], [], [497], [], [499, 500, 501, 502, 503, 504, 505, 506, 507, 508, 509, 536, 0, 549], [], [], [], [], [], [], [], [], [], [], [510, 523], [511, 512, 513, 514, 516, 518], [], [], [], [515], [], [517], [], [519, 520, 521, 522], [], [], [], [], [524, 525, 526, 527, 529, 531], [], [], [], [528], [], [530], [], [532, 533, 534, 535], [], [], [], [], [537, 539, 541, 543, 545, 547], [538], [], [540], [], [542], [], [544], [], [546], [], [548], [], [550, 559, 568, 577, 586, 595, 604, 613], [0, 551, 553, 555, 557], [552], [], [554], [], [556], [], [558], [], [0, 560, 562, 564, 566], [561], [], [563], [], [565], [], [567], [], [0, 569, 571, 573, 575], [570], [], [572], [], [574], [], [576], [], [0, 578, 580, 582, 584], [579], [], [581], [], [583], [], [585], [], [0, 587, 589, 591, 593], [588], [], [590], [], [592], [], [594], [], [0, 596, 598, 600, 602], [597], [], [599], [], [601], [], [603], [], [0, 605, 607, 609, 611], [606], [], [608], [], [610], [], [612], [], [0, 614, 616, 618, 620], [615], [], [617], [], [619], [], [621], [], [623, 625, 627, 629, 631, 633], [624], [], [626], [], [628], [], [630], [], [632], [], [634], [], [636], [], [638], [], [1, 640, 642, 644, 646, 648], [641], [], [643], [], [645], [], [647], [], [649], [], [1, 651, 653, 655, 657, 659, 661, 663, 665, 667, 669, 671], [652], [], [654], [], [656], [], [658], [], [660], [], [662], [], [664], [], [666], [], [668], [], [670], [], [672], [], [1], [675, 677, 679, 681], [676], [], [678], [], [680], [], [682], [], [684, 686, 688, 690], [685], [], [687], [], [689], [], [691], [], [635, 693, 695, 697], [694], [], [696], [], [698], [], [700], [], [702], [], [704], [], [706], [], [708], [], [710], [], [712], [], [0, 714, 715, 0, 716, 717, 718, 0, 719, 0, 720, 0, 0, 721, 0, 722, 723, 724, 725, 726, 727, 0, 728, 729, 730, 731, 732, 733, 734, 0, 735, 0, 0, 736, 737, 738, 739, 740, 741, 0, 742, 743, 744, 745], [], [], [], [], [], [], [], [], [], [], [], [], [], [], [], [], [], [], [], [], [], [], [], [], [], [], [], [], [], [], [], [], []]
def NFL : List Nat := [1, 6, 7, 12, 4, 5, 7, 2, 5, 15, 20, 45]
def RSL : List (List Bool) := [[true], [true, true, true, true, true, true], [true, true, true, true, true, true, false], [true, true, true, true, true, true, true, true, true, true, true, true], [true, true, true, true], [true, true, true, true, false], [false, false, false, false, false, false, false], [true, false], [false, true, true, true, true], [true, true, true, true, true, true, true, true, true, true, true, true, false, true, false], [true, true, false, true, true, true, true, true, true, true, true, false, true, true, true, true, true, true, true, true], [false, true, true, false, true, true, true, false, true, false, true, false, false, true, false, true, true, true, true, true, true, false, true, true, true, true, true, true, true, false, true, false, false, true, true, true, true, true, true, false, true, true, true, true, false]]
def KD (k : Nat) : Nat := KDL.getD k 99
def LEN (k : Nat) : Nat := LENL.getD k 0
def RV (k j : Nat) : Nat := (RVL.getD k []).getD j 0
def NF (c : Nat) : Nat := NFL.getD c 0
def isR (c j : Nat) : Bool := (RSL.getD c []).getD j false
theorem KDL_len : KDL.length = 747 := by decide +kernel
theorem KD_lt {o ci : Nat} (h : KD o = ci) (hc : ci < 99) : o < 747 := by
  rcases Nat.lt_or_ge o 747 with q | q
  · exact q
  · have : KD o = 99 := by unfold KD; rw [List.getD_eq_getElem?_getD, List.getElem?_eq_none (by rw [KDL_len]; exact q)]; rfl
    omega
/-! ===== the state: ints of objects and rows; the two patterns; the law's own long ===== -/
abbrev Wd : Type := (Nat → Nat → Int32) × Nat × Nat × Int64
def RVw (w : Wd) (k j : Nat) : Nat := if k = 0 ∧ j = 9 then w.2.1 else if k = 0 ∧ j = 10 then w.2.2.1 else RV k j
def fv (B : Nat) (w : Wd) (k j : Nat) : Value := if isR (KD k) j = true then .ref (B + RVw w k j) else .int (w.1 k j)
def ent (B : Nat) (Y : Nat → ClassId) (w : Wd) (k : Nat) : va_E :=
  if KD k < 12 then .inr (KD k, (List.range (NF (KD k))).map (fv B w k))
  else if KD k < 22 then .inl (Y (KD k), LEN k, .inl (w.1 k))
  else if KD k = 22 then .inl (Y (KD k), LEN k, .inr (.inl (fun _ => w.2.2.2)))
  else .inl (Y (KD k), LEN k, .inr (.inr (.inr (.inr (fun i => some (B + RV k i))))))
def wl (B : Nat) (Y : Nat → ClassId) (w : Wd) : va_W := (List.range 747).map (fun k => (B + k, ent B Y w k))
def setI (w : Wd) (o j : Nat) (v : Int32) : Wd := (fun a b => if a = o ∧ b = j then v else w.1 a b, w.2)
def setL (w : Wd) (v : Int64) : Wd := (w.1, w.2.1, w.2.2.1, v)
def setT (w : Wd) (r : Nat) : Wd := (w.1, r, w.2.2)
def setD (w : Wd) (r : Nat) : Wd := (w.1, w.2.1, r, w.2.2.2)
def OKw (w : Wd) : Prop := KD w.2.1 = 5 ∧ KD w.2.2.1 = 5
def AB (B : Nat) : Nat → Prop := fun q => B ≤ q
def tys (Y : Nat → ClassId) : List (ClassId × FieldType) := [(Y 20, .int), (Y 21, .boolean), (Y 22, .long), (Y 23, .object RX7), (Y 24, .object RX2), (Y 25, .object RX9), (Y 26, .object RX8), (Y 27, .object RX6)]
theorem wl_len (B : Nat) (Y : Nat → ClassId) (w : Wd) : (wl B Y w).length = 747 := by simp [wl]
theorem wl_get {B : Nat} {Y : Nat → ClassId} {w : Wd} {o : Nat} (h : o < 747) : (wl B Y w)[o]? = some (B + o, ent B Y w o) := by
  simp [wl, List.getElem?_map, List.getElem?_range h]
theorem wl_D (B : Nat) (Y : Nat → ClassId) (w : Wd) : va_D (AB B) (wl B Y w) := by
  have key : ∀ (k : Nat) (q : Nat × va_E), (wl B Y w)[k]? = some q → q.1 = B + k := by
    intro k q h
    have hk : k < 747 := by
      have := (List.getElem?_eq_some_iff.mp h).1
      rwa [wl_len] at this
    rw [wl_get hk] at h
    cases h
    rfl
  refine ⟨fun i j p q hp hq e => ?_, fun k q h => ?_⟩
  · have h1 := key i p hp
    have h2 := key j q hq
    omega
  · have h1 := key k q h
    show B ≤ q.1
    omega
theorem ent_obj {B : Nat} {Y : Nat → ClassId} {w : Wd} {o ci : Nat} (h : KD o = ci) (hc : ci < 12) : ent B Y w o = .inr (ci, (List.range (NF ci)).map (fv B w o)) := by
  unfold ent; rw [h, if_pos hc]
theorem ent_ints {B : Nat} {Y : Nat → ClassId} {w : Wd} {o ci : Nat} (h : KD o = ci) (hc : ci = 20 ∨ ci = 21) : ent B Y w o = .inl (Y ci, LEN o, .inl (w.1 o)) := by
  unfold ent; rw [h, if_neg (by omega), if_pos (by omega)]
theorem ent_long {B : Nat} {Y : Nat → ClassId} {w : Wd} {o : Nat} (h : KD o = 22) : ent B Y w o = .inl (Y 22, LEN o, .inr (.inl (fun _ => w.2.2.2))) := by
  unfold ent; rw [h, if_neg (by omega), if_neg (by omega), if_pos rfl]
theorem ent_refs {B : Nat} {Y : Nat → ClassId} {w : Wd} {o ci : Nat} (h : KD o = ci) (hc : 22 < ci) : ent B Y w o = .inl (Y ci, LEN o, .inr (.inr (.inr (.inr (fun i => some (B + RV o i)))))) := by
  unfold ent; rw [h, if_neg (by omega), if_neg (by omega), if_neg (by omega)]
theorem setI_ne {w : Wd} {o j : Nat} {v : Int32} {k : Nat} (h : k ≠ o) : (setI w o j v).1 k = w.1 k := by
  funext b; simp [setI, h]
theorem setI_eq (w : Wd) (o j : Nat) (v : Int32) : (setI w o j v).1 o = upd (w.1 o) j v := by
  funext b; simp [setI, upd]
theorem ent_setI {B : Nat} {Y : Nat → ClassId} {w : Wd} {o j : Nat} {v : Int32} {k : Nat} (h : k ≠ o) : ent B Y (setI w o j v) k = ent B Y w k := by
  have e : fv B (setI w o j v) k = fv B w k := by
    funext b; unfold fv; rw [setI_ne h]; rfl
  unfold ent
  rw [setI_ne h, e]
  rfl
theorem wl_set {B : Nat} {Y : Nat → ClassId} {w w' : Wd} {o : Nat} {e : va_E} (ho : o < 747) (h1 : ent B Y w' o = e) (h2 : ∀ k, k ≠ o → ent B Y w' k = ent B Y w k) : (wl B Y w).set o (B + o, e) = wl B Y w' := by
  apply List.ext_getElem?
  intro k
  rw [List.getElem?_set, wl_len]
  by_cases hk : o = k
  · subst hk
    rw [if_pos rfl, if_pos ho, wl_get ho, h1]
  · rw [if_neg hk]
    rcases Nat.lt_or_ge k 747 with q | q
    · rw [wl_get q, wl_get q, h2 k (fun h => hk h.symm)]
    · rw [List.getElem?_eq_none (by rw [wl_len]; exact q), List.getElem?_eq_none (by rw [wl_len]; exact q)]
theorem wl_setI_obj {B : Nat} {Y : Nat → ClassId} {w : Wd} {o j ci : Nat} {v : Int32} (h : KD o = ci) (hc : ci < 12) (hr : isR ci j = false) :
    (wl B Y w).set o (B + o, .inr (ci, ((List.range (NF ci)).map (fv B w o)).set j (.int v))) = wl B Y (setI w o j v) := by
  refine wl_set (KD_lt h (by omega)) ?_ (fun k hk => ent_setI hk)
  rw [ent_obj h hc]
  congr 2
  apply List.ext_getElem?
  intro b
  rw [List.getElem?_set, List.length_map, List.length_range]
  by_cases hb : j = b
  · subst hb
    rw [if_pos rfl]
    by_cases hj : j < NF ci
    · rw [if_pos hj, List.getElem?_map, List.getElem?_range hj]
      simp [fv, h, hr, setI]
    · rw [if_neg hj, List.getElem?_eq_none (by simp; omega)]
  · rw [if_neg hb]
    by_cases hq : b < NF ci
    · have hb' : ¬ b = j := fun e => hb e.symm
      rw [List.getElem?_map, List.getElem?_map, List.getElem?_range hq]
      simp [fv, setI, hb', RVw]
    · rw [List.getElem?_eq_none (by simp; omega), List.getElem?_eq_none (by simp; omega)]
theorem wl_setI_arr {B : Nat} {Y : Nat → ClassId} {w : Wd} {o j ci : Nat} {v : Int32} (h : KD o = ci) (hc : ci = 20 ∨ ci = 21) :
    (wl B Y w).set o (B + o, .inl (Y ci, LEN o, .inl (upd (w.1 o) j v))) = wl B Y (setI w o j v) := by
  refine wl_set (KD_lt h (by omega)) ?_ (fun k hk => ent_setI hk)
  rw [ent_ints h hc, setI_eq]

theorem wl_setL {B : Nat} {Y : Nat → ClassId} {w : Wd} {o : Nat} {v : Int64} (h : KD o = 22) (hu : ∀ k, KD k = 22 → k = o) :
    (wl B Y w).set o (B + o, .inl (Y 22, LEN o, .inr (.inl (fun _ => v)))) = wl B Y (setL w v) := by
  refine wl_set (KD_lt h (by omega)) ?_ (fun k hk => ?_)
  · rw [ent_long h]; rfl
  · have h9 : ¬ KD k = 22 := fun e => hk (hu k e)
    unfold ent
    rw [if_neg h9, if_neg h9]
    rfl
theorem wl_setT {B : Nat} {Y : Nat → ClassId} {w : Wd} {r : Nat} : (wl B Y w).set 0 (B + 0, .inr (10, ((List.range (NF 10)).map (fv B w 0)).set 9 (.ref (B + r)))) = wl B Y (setT w r) := by
  have h : KD 0 = 10 := by decide +kernel
  refine wl_set (by omega) ?_ (fun k hk => ?_)
  · rw [ent_obj h (by omega)]
    congr 2
  · have e : fv B (setT w r) k = fv B w k := by
      funext b; unfold fv RVw; simp [hk, setT]
    unfold ent
    rw [e]
    rfl
theorem wl_setD {B : Nat} {Y : Nat → ClassId} {w : Wd} {r : Nat} : (wl B Y w).set 0 (B + 0, .inr (10, ((List.range (NF 10)).map (fv B w 0)).set 10 (.ref (B + r)))) = wl B Y (setD w r) := by
  have h : KD 0 = 10 := by decide +kernel
  refine wl_set (by omega) ?_ (fun k hk => ?_)
  · rw [ent_obj h (by omega)]
    congr 2
  · have e : fv B (setD w r) k = fv B w k := by
      funext b; unfold fv RVw; simp [hk, setD]
    unfold ent
    rw [e]
    rfl
/-! ===== the functional side ===== -/
def inb (i : Int32) (n : Nat) : Bool := !(decide (i < 0)) && decide (i.toNatClampNeg < n)
theorem inb_in {i : Int32} {n : Nat} (h : inb i n = true) : vp_in i n := by
  unfold inb at h
  simp only [Bool.and_eq_true, Bool.not_eq_true', decide_eq_false_iff_not, decide_eq_true_eq] at h
  unfold vp_in
  rintro (q | q)
  · exact h.1 q
  · omega
def ck {Z : Type} (b : Bool) (k : Option Z) : Option Z := if b = true then k else none
theorem ck_some {Z : Type} {b : Bool} {k : Option Z} {z : Z} (h : ck b k = some z) : b = true ∧ k = some z := by
  unfold ck at h
  by_cases hb : b = true
  · rw [if_pos hb] at h; exact ⟨hb, h⟩
  · rw [if_neg hb] at h; cases h
def wr {Z : Type} (w : Wd) (k : Wd → Option Z) : Option Z := k w
def bd {R Z : Type} (o : Option (R × Wd)) (k : R → Wd → Option Z) : Option Z := match o with
  | none => none
  | some q => k q.1 q.2
theorem bd_some {R Z : Type} {o : Option (R × Wd)} {k : R → Wd → Option Z} {z : Z} (h : bd o k = some z) : ∃ (r : R) (w : Wd), o = some (r, w) ∧ k r w = some z := by
  cases o with
  | none => cases h
  | some q => exact ⟨q.1, q.2, rfl, h⟩
def bdq {Z : Type} (o : Option (Option Nat × Wd)) (k0 : Wd → Option Z) (k1 : Nat → Wd → Option Z) : Option Z := match o with
  | none => none
  | some (none, w) => k0 w
  | some (some r, w) => k1 r w
theorem bdq_some {Z : Type} {o : Option (Option Nat × Wd)} {k0 : Wd → Option Z} {k1 : Nat → Wd → Option Z} {z : Z} (h : bdq o k0 k1 = some z) : (∃ w : Wd, o = some (none, w) ∧ k0 w = some z) ∨ ∃ (r : Nat) (w : Wd), o = some (some r, w) ∧ k1 r w = some z := by
  rcases o with _ | ⟨_ | r, w⟩
  · cases h
  · exact Or.inl ⟨w, rfl, h⟩
  · exact Or.inr ⟨r, w, rfl, h⟩
/-- a call that may throw, in a method that lets it through -/
def bdx {R R2 : Type} (o : Option ((Nat ⊕ R) × Wd)) (k : R → Wd → Option ((Nat ⊕ R2) × Wd)) : Option ((Nat ⊕ R2) × Wd) := match o with
  | none => none
  | some (.inl e, w) => some (.inl e, w)
  | some (.inr r, w) => k r w
theorem bdx_some {R R2 : Type} {o : Option ((Nat ⊕ R) × Wd)} {k : R → Wd → Option ((Nat ⊕ R2) × Wd)} {z : (Nat ⊕ R2) × Wd} (h : bdx o k = some z) : (∃ (e : Nat) (w : Wd), o = some (.inl e, w) ∧ z = (.inl e, w)) ∨ ∃ (r : R) (w : Wd), o = some (.inr r, w) ∧ k r w = some z := by
  rcases o with _ | ⟨e | r, w⟩
  · cases h
  · exact Or.inl ⟨e, w, rfl, (Option.some.inj h).symm⟩
  · exact Or.inr ⟨r, w, rfl, h⟩
/-- a call that may throw, whose exceptions are caught -/
def bdc {R Z : Type} (o : Option ((Nat ⊕ R) × Wd)) (kx : Nat → Wd → Option Z) (k : R → Wd → Option Z) : Option Z := match o with
  | none => none
  | some (.inl e, w) => kx e w
  | some (.inr r, w) => k r w
theorem bdc_some {R Z : Type} {o : Option ((Nat ⊕ R) × Wd)} {kx : Nat → Wd → Option Z} {k : R → Wd → Option Z} {z : Z} (h : bdc o kx k = some z) : (∃ (e : Nat) (w : Wd), o = some (.inl e, w) ∧ kx e w = some z) ∨ ∃ (r : R) (w : Wd), o = some (.inr r, w) ∧ k r w = some z := by
  rcases o with _ | ⟨e | r, w⟩
  · cases h
  · exact Or.inl ⟨e, w, rfl, h⟩
  · exact Or.inr ⟨r, w, rfl, h⟩
def loopN {S Z : Type} (body : (S → Option Z) → S → Option Z) : Nat → S → Option Z
  | 0, _ => none
  | n + 1, s => body (loopN body n) s
/-- how many rounds a loop is given -/
def FU : Nat := 100000
theorem loopN_ind {S Z : Type} {body : (S → Option Z) → S → Option Z} {z : Z} {P : S → Prop} (h : ∀ (rec : S → Option Z), (∀ s, rec s = some z → P s) → ∀ s, body rec s = some z → P s) : ∀ (n : Nat) (s : S), loopN body n s = some z → P s := by
  intro n
  induction n with
  | zero => intro s hs; cases hs
  | succ n ih => intro s hs; exact h _ ih s hs
def isZ (x : Int32) : Prop := x = 0 ∨ x = 1
theorem isZ_0 : isZ 0 := Or.inl rfl
theorem isZ_1 : isZ 1 := Or.inr rfl
theorem isZ_nar {x : Int32} (h : isZ x) : narrow .boolean (.int x) = .int x := by
  rcases h with rfl | rfl <;> rfl
theorem isZ_fits {x : Int32} (h : isZ x) : fits .boolean (.int x) = true := by
  rcases h with rfl | rfl <;> rfl
