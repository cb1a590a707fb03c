-- what the tables' rows are worth, by their places in the Statement's lists
def lw_good : List Cond := lw_tbl.filter goodWord
theorem ms_good {ws : List Cond} (h : ∀ w ∈ ws, w ∈ lw_good) : GoodIn lw_good ws := fun w hw => ⟨h w hw, good_of_word (List.mem_filter.mp (h w hw)).2⟩
theorem ms_in {α : Type} {l : List α} {f : α → Cond} (is : List Nat) (h : l.map (fun a => some (f a)) = is.map (fun i => lw_tbl[i]?)) (hg : ∀ a, goodWord (f a) = true) : ∀ a ∈ l, f a ∈ lw_good := by
  intro a ha
  have h1 : some (f a) ∈ l.map (fun a => some (f a)) := List.mem_map_of_mem ha
  rw [h] at h1
  obtain ⟨i, -, hi⟩ := List.mem_map.mp h1
  exact List.mem_filter.mpr ⟨List.mem_of_getElem? hi, hg a⟩
theorem ms_inT {α : Type} {l : List α} {f : α → Cond} (is : List Nat) (h : l.map (fun a => some (f a)) = is.map (fun i => lw_tbl[i]?)) : ∀ a ∈ l, f a ∈ lw_tbl := by
  intro a ha
  have h1 : some (f a) ∈ l.map (fun a => some (f a)) := List.mem_map_of_mem ha
  rw [h] at h1
  obtain ⟨i, -, hi⟩ := List.mem_map.mp h1
  exact List.mem_of_getElem? hi
theorem ms_look {α : Type} {l : List ((Nat × Nat) × α)} {k : Nat × Nat} {v : α} (h : l.lookup k = some v) : (k, v) ∈ l := by
  induction l with
  | nil => simp at h
  | cons q l ih =>
    obtain ⟨k', v'⟩ := q
    rw [List.lookup_cons] at h
    by_cases hk : k == k'
    · rw [hk] at h
      have := eq_of_beq hk
      subst this
      cases h
      exact List.mem_cons_self
    · rw [show (k == k') = false by simpa using hk] at h
      exact List.mem_cons_of_mem _ (ih h)
set_option maxRecDepth 1000000 in
set_option maxHeartbeats 4000000 in
theorem ms_zcode : (List.range 132).map (fun z => some (Cond.code (ms_Y z) (ms_B z) (ms_L z) (ms_R z))) = [161, 380, 384, 391, 395, 399, 124, 283, 287, 351, 51, 212, 224, 232, 236, 240, 244, 144, 420, 432, 438, 69, 174, 181, 228, 254, 262, 266, 275, 292, 296, 300, 305, 310, 314, 319, 334, 338, 368, 372, 478, 484, 43, 177, 207, 216, 220, 250, 258, 271, 279, 326, 330, 342, 347, 355, 359, 364, 376, 403, 407, 411, 416, 424, 428, 442, 446, 450, 459, 462, 467, 470, 488, 492, 496, 502, 507, 511, 515, 519, 587, 592, 596, 600, 604, 608, 612, 616, 624, 628, 632, 637, 641, 645, 649, 653, 657, 662, 666, 670, 674, 678, 682, 686, 690, 694, 698, 702, 706, 711, 715, 720, 724, 728, 733, 737, 741, 745, 749, 753, 757, 761, 765, 769, 774, 778, 786, 790, 794, 798, 802, 453].map (fun i => lw_tbl[i]?) := rfl
def ms_il10 : List Nat := [0, 1, 2, 3, 4, 5, 6, 7, 8, 9]
set_option maxRecDepth 1000000 in
set_option maxHeartbeats 4000000 in
theorem ms_zini : ms_il10.map (fun o => some (Cond.initialized (ms_cn o))) = [36, 33, 31, 35, 32, 30, 37, 29, 34, 38].map (fun i => lw_tbl[i]?) := rfl
def ms_instl : List Nat := [0, 1, 2, 3, 4, 5, 6, 7, 8, 9, 10, 11, 12, 13, 14, 15, 16, 17, 18, 19, 20, 21, 22, 23, 24, 25, 26, 27, 28, 29, 30, 31, 32, 33, 34, 35, 36, 37, 38, 39, 40, 41, 42, 44, 45, 46, 47, 48, 49, 50, 51, 52, 53, 54, 55, 56, 57, 58, 59, 60, 61, 62, 63, 64, 65, 66, 67, 70, 72, 73, 74, 75, 76, 77, 78, 79, 80, 82, 83, 84, 85, 86, 87, 88, 89, 90, 91, 92, 93, 94, 95, 96, 97, 98, 99, 100, 101, 102, 103, 104, 105, 106, 107, 108, 109, 110, 111, 112, 113, 114, 115, 116, 117, 118, 119, 120, 121, 122, 123, 125, 126, 127, 128, 129, 130]
set_option maxRecDepth 1000000 in
set_option maxHeartbeats 4000000 in
theorem ms_zinst : ms_instl.map (fun z => some (Cond.instanceMethod (ms_Y z))) = [160, 378, 382, 389, 393, 397, 123, 281, 285, 349, 50, 210, 222, 230, 234, 238, 242, 143, 418, 430, 436, 68, 172, 179, 226, 252, 260, 264, 273, 290, 294, 298, 303, 308, 312, 317, 332, 336, 366, 370, 476, 482, 42, 205, 214, 218, 248, 256, 269, 277, 324, 328, 340, 345, 353, 357, 362, 374, 401, 405, 410, 414, 422, 426, 440, 444, 449, 465, 486, 490, 494, 501, 506, 510, 514, 518, 585, 594, 598, 603, 607, 611, 615, 622, 626, 631, 636, 640, 644, 647, 652, 655, 661, 665, 669, 673, 677, 681, 684, 688, 693, 696, 700, 704, 709, 713, 719, 723, 726, 732, 736, 739, 743, 747, 751, 755, 760, 763, 767, 776, 785, 789, 792, 796, 800].map (fun i => lw_tbl[i]?) := rfl
def ms_stal : List Nat := [43, 68, 69, 71, 81, 124, 131]
set_option maxRecDepth 1000000 in
set_option maxHeartbeats 4000000 in
theorem ms_zsta : ms_stal.map (fun z => some (Cond.static (ms_Y z))) = [176, 458, 461, 469, 591, 773, 452].map (fun i => lw_tbl[i]?) := rfl
def ms_sell : List Nat := [1, 2, 3, 4, 5, 7, 8, 9, 11, 12, 13, 14, 15, 16, 18, 19, 20, 22, 23, 24, 25, 26, 27, 28, 29, 30, 31, 32, 33, 34, 35, 36, 37, 38, 39, 40, 41, 44, 45, 46, 47, 48, 49, 50, 51, 52, 53, 54, 55, 56, 57, 58, 59, 60, 61, 62, 63, 64, 65, 66, 67, 70, 72, 73, 74, 76, 77, 78, 79, 80, 82, 83, 84, 85, 86, 87, 88, 89, 90, 91, 92, 93, 94, 95, 96, 97, 98, 99, 100, 101, 102, 103, 104, 105, 106, 107, 108, 109, 110, 111, 112, 113, 114, 115, 116, 117, 118, 119, 120, 121, 122, 123, 125, 126, 127, 128, 129, 130]
set_option maxRecDepth 1000000 in
set_option maxHeartbeats 4000000 in
theorem ms_zsel : ms_sell.map (fun z => some (Cond.selects (ms_Y z).cls (ms_Y z) (ms_Y z))) = [379, 383, 390, 394, 398, 282, 286, 350, 211, 223, 231, 235, 239, 243, 419, 431, 437, 173, 180, 227, 253, 261, 265, 274, 291, 295, 299, 304, 309, 313, 318, 333, 337, 367, 371, 477, 483, 206, 215, 219, 249, 257, 270, 278, 325, 329, 341, 346, 354, 358, 363, 375, 402, 406, 0, 415, 423, 427, 441, 445, 1, 466, 487, 491, 495, 2, 3, 4, 5, 586, 595, 599, 6, 7, 8, 9, 623, 627, 10, 11, 12, 13, 648, 14, 656, 15, 16, 17, 18, 19, 20, 685, 689, 21, 697, 701, 705, 710, 714, 22, 23, 727, 24, 25, 740, 744, 748, 752, 756, 26, 764, 768, 777, 27, 28, 793, 797, 801].map (fun i => lw_tbl[i]?) := rfl
def ms_mll : List ((Nat × Nat) × Nat) := [((7, 9), 42), ((5, 9), 10), ((5, 18), 21), ((5, 28), 6), ((1, 21), 21), ((5, 40), 17), ((5, 47), 0), ((5, 52), 22), ((5, 56), 23), ((7, 13), 44), ((5, 60), 43), ((5, 63), 11), ((7, 18), 45), ((7, 23), 46), ((5, 71), 12), ((2, 19), 24), ((2, 27), 13), ((2, 31), 14), ((2, 35), 15), ((2, 47), 16), ((2, 39), 22), ((2, 43), 23), ((7, 27), 47), ((5, 81), 25), ((7, 31), 48), ((5, 89), 26), ((5, 102), 27), ((7, 36), 49), ((5, 112), 28), ((7, 40), 50), ((5, 121), 7), ((1, 26), 8), ((1, 29), 25), ((5, 124), 29), ((4, 64), 30), ((4, 68), 31), ((4, 76), 27), ((4, 72), 32), ((4, 79), 26), ((4, 82), 33), ((4, 50), 34), ((4, 54), 28), ((4, 85), 35), ((7, 44), 51), ((7, 48), 52), ((5, 130), 36), ((5, 133), 37), ((7, 53), 53), ((5, 137), 33), ((7, 57), 54), ((5, 141), 9), ((7, 61), 55), ((7, 65), 56), ((5, 145), 30), ((7, 69), 57), ((5, 149), 38), ((5, 152), 39), ((7, 73), 58), ((5, 155), 1), ((0, 24), 2), ((0, 43), 25), ((0, 28), 29), ((0, 32), 39), ((0, 36), 3), ((0, 39), 4), ((0, 50), 5), ((7, 77), 59), ((7, 81), 60), ((5, 162), 61), ((5, 166), 35), ((7, 85), 62), ((5, 170), 18), ((7, 89), 63), ((7, 93), 64), ((5, 173), 19), ((3, 28), 30), ((3, 37), 20), ((7, 97), 65), ((7, 101), 66), ((5, 176), 67), ((5, 180), 131), ((5, 185), 68), ((5, 188), 69), ((7, 106), 70), ((5, 199), 71), ((5, 202), 40), ((4, 92), 36), ((4, 95), 37), ((5, 205), 41), ((7, 110), 72), ((7, 114), 73), ((7, 118), 74), ((5, 216), 34), ((7, 12), 75), ((6, 53), 76), ((6, 56), 77), ((6, 60), 78), ((6, 64), 79), ((7, 17), 80), ((6, 71), 81), ((7, 22), 82), ((7, 26), 83), ((6, 101), 84), ((6, 97), 85), ((6, 81), 86), ((6, 91), 87), ((7, 30), 88), ((7, 35), 89), ((6, 136), 90), ((6, 141), 91), ((6, 123), 92), ((6, 120), 93), ((7, 39), 94), ((6, 144), 95), ((7, 43), 96), ((6, 149), 97), ((6, 152), 98), ((6, 132), 99), ((6, 126), 100), ((6, 129), 101), ((6, 155), 102), ((7, 47), 103), ((7, 52), 104), ((6, 158), 105), ((7, 56), 106), ((7, 60), 107), ((7, 64), 108), ((7, 68), 109), ((7, 72), 110), ((6, 166), 111), ((6, 169), 112), ((7, 76), 113), ((6, 178), 114), ((6, 172), 115), ((7, 80), 116), ((7, 84), 117), ((7, 88), 118), ((7, 92), 119), ((7, 96), 120), ((6, 181), 121), ((7, 100), 122), ((7, 105), 123), ((6, 188), 124), ((7, 109), 125), ((6, 200), 126), ((6, 203), 127), ((7, 113), 128), ((7, 117), 129), ((7, 121), 130)]
set_option maxRecDepth 1000000 in
set_option maxHeartbeats 4000000 in
theorem ms_zml : ms_mll.map (fun q => some (Cond.methodLink (ms_cn q.1.1) q.1.2 (ms_Y q.2))) = [41, 49, 67, 122, 131, 142, 159, 171, 178, 204, 208, 209, 213, 217, 221, 225, 229, 233, 237, 241, 245, 246, 247, 251, 255, 259, 263, 268, 272, 276, 280, 284, 288, 289, 293, 297, 301, 302, 306, 307, 311, 315, 316, 323, 327, 331, 335, 339, 343, 344, 348, 352, 356, 360, 361, 365, 369, 373, 377, 381, 385, 386, 387, 388, 392, 396, 400, 404, 408, 412, 413, 417, 421, 425, 429, 434, 435, 439, 443, 447, 451, 457, 460, 464, 468, 475, 479, 480, 481, 485, 489, 493, 497, 500, 504, 508, 512, 516, 584, 590, 593, 597, 601, 605, 609, 613, 621, 625, 629, 634, 638, 642, 646, 650, 654, 659, 663, 667, 671, 675, 679, 683, 687, 691, 695, 699, 703, 708, 712, 717, 721, 725, 730, 734, 738, 742, 746, 750, 754, 758, 762, 766, 772, 775, 783, 787, 791, 795, 799].map (fun i => lw_tbl[i]?) := rfl
def ms_obl : List (Nat × Nat) := [(5, 1), (2, 3), (4, 3), (1, 1), (3, 3), (0, 3), (6, 1)]
set_option maxRecDepth 1000000 in
set_option maxHeartbeats 4000000 in
theorem ms_zob : ms_obl.map (fun q => some (Cond.methodLink (ms_cn q.1) q.2 Lib.objectInit)) = [44, 52, 70, 125, 145, 162, 503].map (fun i => lw_tbl[i]?) := rfl
def ms_nel : List ((Nat × Nat) × Nat) := [((4, 46), 43)]
set_option maxRecDepth 1000000 in
set_option maxHeartbeats 4000000 in
theorem ms_zmx : [some (Cond.static Lib.Math.max.name), some (Cond.static Lib.Math.min.name), some (Cond.initialized "java/lang/Math"), some (Cond.code Lib.Math.max.name Lib.Math.max.code 2 (some .int)), some (Cond.code Lib.Math.min.name Lib.Math.min.code 2 (some .int))] = [127, 321, 34, 128, 322].map (fun i => lw_tbl[i]?) := rfl
def ms_maxl : List (Nat × Nat) := [(1, 7), (4, 58), (3, 22), (5, 191)]
set_option maxRecDepth 1000000 in
set_option maxHeartbeats 4000000 in
theorem ms_zmax : ms_maxl.map (fun q => some (Cond.methodLink (ms_cn q.1) q.2 Lib.Math.max.name)) = [126, 267, 433, 463].map (fun i => lw_tbl[i]?) := rfl
def ms_minl : List (Nat × Nat) := [(4, 89)]
set_option maxRecDepth 1000000 in
set_option maxHeartbeats 4000000 in
theorem ms_zmin : ms_minl.map (fun q => some (Cond.methodLink (ms_cn q.1) q.2 Lib.Math.min.name)) = [320].map (fun i => lw_tbl[i]?) := rfl
set_option maxRecDepth 1000000 in
set_option maxHeartbeats 4000000 in
theorem ms_zne : ms_nel.map (fun q => some (Cond.methodLinkNest (ms_cn q.1.1) q.1.2 (ms_Y q.2) "MayorsChair")) = [175].map (fun i => lw_tbl[i]?) := rfl
def ms_fT (ci k : Nat) : String × String × String × Bool := match vwCl[ci]? with
  | some q => q.2.1 k
  | none => ("", "", "", false)
set_option maxRecDepth 1000000 in
set_option maxHeartbeats 4000000 in
theorem ms_zfl : ms_fl.map (fun q => some (Cond.fieldLink (ms_cn q.1.1) q.1.2 (ms_fT q.2.1 q.2.2).1 (ms_fT q.2.1 q.2.2).2.1 (ms_fT q.2.1 q.2.2).2.2.1)) = [53, 54, 55, 56, 71, 72, 73, 74, 75, 76, 77, 78, 79, 80, 81, 82, 83, 84, 85, 86, 87, 88, 89, 90, 91, 92, 93, 94, 95, 132, 133, 134, 146, 147, 148, 149, 163, 164, 165, 182, 183, 184, 185, 186, 187, 188, 520, 521, 522, 523, 524, 525, 526, 527, 528, 529, 530, 531, 532, 533, 534, 535, 536, 537, 538, 539, 540].map (fun i => lw_tbl[i]?) := rfl
set_option maxRecDepth 1000000 in
set_option maxHeartbeats 4000000 in
theorem ms_zgl : ms_gl.map (fun q => some (Cond.constantLong (ms_cn q.1.1) q.1.2 q.2)) = [471, 472, 473, 474, 588, 589, 617, 618, 619, 620, 633, 658, 707, 716, 729, 770, 771, 779, 780, 781, 782].map (fun i => lw_tbl[i]?) := rfl
set_option maxRecDepth 1000000 in
set_option maxHeartbeats 4000000 in
theorem ms_zil : ms_il.map (fun q => some (Cond.constant (ms_cn q.1.1) q.1.2 q.2)) = [454, 455, 456].map (fun i => lw_tbl[i]?) := rfl
set_option maxRecDepth 1000000 in
set_option maxHeartbeats 4000000 in
theorem ms_znl : ms_nl.map (fun q => some (Cond.classLink (ms_cn q.1.1) q.1.2 (ms_cn q.2))) = [39, 47, 65, 120, 129, 140, 157, 498].map (fun i => lw_tbl[i]?) := rfl
def ms_szs : List Nat := [2, 2, 3, 3, 11, 7, 21]
set_option maxRecDepth 1000000 in
set_option maxHeartbeats 4000000 in
theorem ms_zins : (List.range 7).map (fun ci => some (Cond.instantiable (ms_cn ci) (ms_szs.getD ci 0))) = [158, 121, 48, 141, 66, 40, 499].map (fun i => lw_tbl[i]?) := rfl
set_option maxRecDepth 1000000 in
set_option maxHeartbeats 4000000 in
theorem ms_zar : [some (Cond.arrayClass .int), some (Cond.arrayClass .char), some (Cond.arrayOver (.object "MayorsChair$Town"))] = [119, 64, 130].map (fun i => lw_tbl[i]?) := rfl
set_option maxRecDepth 1000000 in
set_option maxHeartbeats 4000000 in
theorem ms_zoi : [some (Cond.instanceMethod Lib.objectInit), some (Cond.code Lib.objectInit ⟨#[0xb1]⟩ 1 none)] = [45, 46].map (fun i => lw_tbl[i]?) := rfl
