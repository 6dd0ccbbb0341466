theorem gw_in {big : List Cond} (ws : List Cond) (ps : List Nat) (hp : ws = ps.filterMap (fun i => big[i]?)) : ∀ w ∈ ws, w ∈ big := by
  intro w hw
  rw [hp] at hw
  obtain ⟨i, -, hi⟩ := List.mem_filterMap.mp hw
  exact List.mem_of_getElem? hi
set_option maxRecDepth 100000 in
theorem gw_wsL_law_r1 : ∀ w ∈ wsL_law_r1, w ∈ lw_tbl := gw_in _ [34, 35, 25, 484, 485, 31, 36, 37, 38, 39, 40, 41, 42, 43, 26, 156, 65, 66, 27, 157, 84, 85, 28, 158] (by decide +kernel)
set_option maxRecDepth 100000 in
theorem gw_wsL_law_r2 : ∀ w ∈ wsL_law_r2, w ∈ lw_tbl := gw_in _ [103, 104, 29, 159, 45, 46, 47, 64, 48, 49, 68, 69, 70, 71, 72, 87, 88, 89, 90, 91, 92, 93, 106, 107] (by decide +kernel)
set_option maxRecDepth 100000 in
theorem gw_wsL_law_r3 : ∀ w ∈ wsL_law_r3, w ∈ lw_tbl := gw_in _ [108, 109, 110, 111, 131, 133, 0, 134, 160, 135, 136, 137, 138, 50, 51, 52, 139, 140, 30, 141, 142, 143, 144, 145] (by decide +kernel)
set_option maxRecDepth 100000 in
theorem gw_wsL_law_r4 : ∀ w ∈ wsL_law_r4, w ∈ lw_tbl := gw_in _ [74, 146, 147, 148, 149, 150, 151, 152, 153, 154, 112, 113, 114, 115, 155, 486, 487, 488, 489, 490, 491, 492, 554, 495] (by decide +kernel)
set_option maxRecDepth 100000 in
theorem gw_wsL_law_r5 : ∀ w ∈ wsL_law_r5, w ∈ lw_tbl := gw_in _ [496, 497, 498, 499, 500, 501, 502, 503, 505, 506, 507, 509, 510, 172, 173, 174, 175, 555, 556, 557, 558, 493, 494, 504] (by decide +kernel)
set_option maxRecDepth 100000 in
theorem gw_wsL_law_r6 : ∀ w ∈ wsL_law_r6, w ∈ lw_tbl := gw_in _ [559, 560, 561, 176, 177, 178, 179, 180, 181, 182, 183, 184, 185, 186, 187, 188, 189, 190, 191, 192, 194, 195, 196, 197] (by decide +kernel)
set_option maxRecDepth 100000 in
theorem gw_wsL_law_r7 : ∀ w ∈ wsL_law_r7, w ∈ lw_tbl := gw_in _ [198, 199, 201, 202, 562, 563, 564, 565, 566, 568, 14, 569, 203, 204, 205, 206, 207, 208, 209, 210, 211, 212, 213, 214] (by decide +kernel)
set_option maxRecDepth 100000 in
theorem gw_wsL_law_r8 : ∀ w ∈ wsL_law_r8, w ∈ lw_tbl := gw_in _ [215, 570, 571, 572, 573, 574, 576, 15, 577, 216, 217, 218, 219, 220, 221, 222, 223, 224, 225, 226, 578, 579, 580, 581] (by decide +kernel)
set_option maxRecDepth 100000 in
theorem gw_wsL_law_r9 : ∀ w ∈ wsL_law_r9, w ∈ lw_tbl := gw_in _ [227, 228, 229, 230, 582, 583, 584, 585, 231, 232, 233, 234, 235, 237, 1, 238, 239, 240, 241, 242, 243, 244, 245, 246] (by decide +kernel)
set_option maxRecDepth 100000 in
theorem gw_wsL_law_r10 : ∀ w ∈ wsL_law_r10, w ∈ lw_tbl := gw_in _ [248, 2, 249, 586, 587, 588, 589, 251, 252, 253, 254, 255, 256, 257, 258, 259, 260, 261, 262, 263, 264, 32, 265, 266] (by decide +kernel)
set_option maxRecDepth 100000 in
theorem gw_wsL_law_r11 : ∀ w ∈ wsL_law_r11, w ∈ lw_tbl := gw_in _ [267, 268, 269, 270, 271, 272, 274, 275, 276, 277, 278, 279, 280, 281, 282, 283, 284, 285, 590, 591, 592, 593, 594, 596] (by decide +kernel)
set_option maxRecDepth 100000 in
theorem gw_wsL_law_r12 : ∀ w ∈ wsL_law_r12, w ∈ lw_tbl := gw_in _ [16, 597, 286, 287, 288, 289, 290, 292, 3, 293, 294, 295, 296, 297, 73, 298, 299, 300, 301, 302, 305, 306, 308, 310] (by decide +kernel)
set_option maxRecDepth 100000 in
theorem gw_wsL_law_r13 : ∀ w ∈ wsL_law_r13, w ∈ lw_tbl := gw_in _ [4, 311, 312, 313, 314, 315, 316, 317, 319, 5, 320, 321, 323, 6, 324, 325, 326, 327, 328, 598, 599, 600, 601, 508] (by decide +kernel)
set_option maxRecDepth 100000 in
theorem gw_wsL_law_r14 : ∀ w ∈ wsL_law_r14, w ∈ lw_tbl := gw_in _ [602, 604, 17, 605, 606, 608, 18, 609, 329, 330, 331, 332, 333, 334, 335, 336, 337, 338, 339, 610, 611, 612, 613, 340] (by decide +kernel)
set_option maxRecDepth 100000 in
theorem gw_wsL_law_r15 : ∀ w ∈ wsL_law_r15, w ∈ lw_tbl := gw_in _ [341, 342, 343, 344, 345, 346, 347, 348, 349, 350, 351, 614, 615, 616, 617, 618, 620, 19, 621, 622, 624, 20, 625, 352] (by decide +kernel)
set_option maxRecDepth 100000 in
theorem gw_wsL_law_r16 : ∀ w ∈ wsL_law_r16, w ∈ lw_tbl := gw_in _ [353, 354, 355, 356, 357, 358, 359, 626, 627, 628, 629, 630, 632, 21, 633, 361, 362, 363, 364, 365, 367, 7, 368, 369] (by decide +kernel)
set_option maxRecDepth 100000 in
theorem gw_wsL_law_r17 : ∀ w ∈ wsL_law_r17, w ∈ lw_tbl := gw_in _ [371, 8, 372, 373, 374, 375, 376, 377, 378, 380, 9, 381, 634, 635, 636, 637, 638, 639, 640, 641, 643, 22, 644, 382] (by decide +kernel)
set_option maxRecDepth 100000 in
theorem gw_wsL_law_r18 : ∀ w ∈ wsL_law_r18, w ∈ lw_tbl := gw_in _ [383, 384, 385, 645, 646, 647, 648, 386, 387, 388, 389, 390, 391, 392, 393, 649, 650, 651, 652, 395, 396, 397, 398, 403] (by decide +kernel)
set_option maxRecDepth 100000 in
theorem gw_wsL_law_r19 : ∀ w ∈ wsL_law_r19, w ∈ lw_tbl := gw_in _ [404, 33, 405, 399, 400, 401, 402, 653, 654, 655, 656, 406, 407, 408, 409, 410, 411, 412, 413, 414, 416, 10, 417, 657] (by decide +kernel)
set_option maxRecDepth 100000 in
theorem gw_wsL_law_r20 : ∀ w ∈ wsL_law_r20, w ∈ lw_tbl := gw_in _ [658, 659, 660, 418, 419, 420, 421, 422, 423, 424, 425, 661, 662, 663, 664, 665, 667, 23, 668, 427, 428, 429, 430, 669] (by decide +kernel)
set_option maxRecDepth 100000 in
theorem gw_wsL_law_r21 : ∀ w ∈ wsL_law_r21, w ∈ lw_tbl := gw_in _ [670, 671, 672, 431, 432, 433, 434, 435, 673, 674, 675, 676, 436, 437, 438, 439, 440, 441, 442, 443, 444, 446, 11, 447] (by decide +kernel)
set_option maxRecDepth 100000 in
theorem gw_wsL_law_r22 : ∀ w ∈ wsL_law_r22, w ∈ lw_tbl := gw_in _ [677, 678, 679, 680, 448, 449, 450, 451, 452, 453, 454, 455, 681, 682, 683, 684, 456, 457, 458, 459, 460, 461, 462, 463] (by decide +kernel)
set_option maxRecDepth 100000 in
theorem gw_wsL_law_r23 : ∀ w ∈ wsL_law_r23, w ∈ lw_tbl := gw_in _ [685, 686, 687, 688, 464, 465, 466, 467, 468, 469, 470, 471, 689, 690, 691, 692, 472, 473, 474, 475, 476, 478, 12, 479] (by decide +kernel)
set_option maxRecDepth 100000 in
theorem gw_wsL_law_r24 : ∀ w ∈ wsL_law_r24, w ∈ lw_tbl := gw_in _ [480, 482, 13, 483, 693, 694, 695, 696] (by decide +kernel)
theorem gw_app {big a b : List Cond} (ha : ∀ w ∈ a, w ∈ big) (hb : ∀ w ∈ b, w ∈ big) : ∀ w ∈ a ++ b, w ∈ big := fun w h => (List.mem_append.mp h).elim (ha w) (hb w)
theorem inX0 : ∀ w ∈ wsX00, w ∈ lw_tbl := by decide +kernel
theorem inX1 : ∀ w ∈ wsX10, w ∈ lw_tbl := by decide +kernel
theorem inX2 : ∀ w ∈ wsX20, w ∈ lw_tbl := by decide +kernel
theorem inX3 : ∀ w ∈ wsX30, w ∈ lw_tbl := by decide +kernel
theorem inX4 : ∀ w ∈ wsX40, w ∈ lw_tbl := by decide +kernel
theorem inX5 : ∀ w ∈ wsX50, w ∈ lw_tbl := by decide +kernel
theorem wsL_law_in : ∀ w ∈ wsL_law, w ∈ lw_tbl := (gw_app (gw_app (gw_app (gw_app (gw_app (gw_app (gw_app (gw_app gw_wsL_law_r1 (gw_app gw_wsL_law_r2 (gw_app gw_wsL_law_r3 (gw_app gw_wsL_law_r4 (gw_app gw_wsL_law_r5 (gw_app gw_wsL_law_r6 (gw_app gw_wsL_law_r7 (gw_app gw_wsL_law_r8 (gw_app gw_wsL_law_r9 (gw_app gw_wsL_law_r10 (gw_app gw_wsL_law_r11 (gw_app gw_wsL_law_r12 (gw_app gw_wsL_law_r13 (gw_app gw_wsL_law_r14 (gw_app gw_wsL_law_r15 (gw_app gw_wsL_law_r16 (gw_app gw_wsL_law_r17 (gw_app gw_wsL_law_r18 (gw_app gw_wsL_law_r19 (gw_app gw_wsL_law_r20 (gw_app gw_wsL_law_r21 (gw_app gw_wsL_law_r22 (gw_app gw_wsL_law_r23 gw_wsL_law_r24))))))))))))))))))))))) inX4) inX5) inX0) inX3) inX1) inX2) (fun _ h => absurd h List.not_mem_nil))
theorem inlX0 : ∀ w ∈ wsX00, w ∈ wsL_law := fun _ h => List.mem_append_left _ (List.mem_append_left _ (List.mem_append_left _ (List.mem_append_left _ (List.mem_append_right _ h))))
theorem inlX1 : ∀ w ∈ wsX10, w ∈ wsL_law := fun _ h => List.mem_append_left _ (List.mem_append_left _ (List.mem_append_right _ h))
theorem inlX2 : ∀ w ∈ wsX20, w ∈ wsL_law := fun _ h => List.mem_append_left _ (List.mem_append_right _ h)
theorem inlX3 : ∀ w ∈ wsX30, w ∈ wsL_law := fun _ h => List.mem_append_left _ (List.mem_append_left _ (List.mem_append_left _ (List.mem_append_right _ h)))
theorem inlX4 : ∀ w ∈ wsX40, w ∈ wsL_law := fun _ h => List.mem_append_left _ (List.mem_append_left _ (List.mem_append_left _ (List.mem_append_left _ (List.mem_append_left _ (List.mem_append_left _ (List.mem_append_right _ h))))))
theorem inlX5 : ∀ w ∈ wsX50, w ∈ wsL_law := fun _ h => List.mem_append_left _ (List.mem_append_left _ (List.mem_append_left _ (List.mem_append_left _ (List.mem_append_left _ (List.mem_append_right _ h)))))
theorem inJ6 : ∀ w ∈ wsJ60, w ∈ lw_tbl := by decide +kernel
theorem inJ9 : ∀ w ∈ wsJ90, w ∈ lw_tbl := by decide +kernel
theorem inJ7 : ∀ w ∈ wsJ70, w ∈ lw_tbl := by decide +kernel
