theorem mem_pl {big : List Cond} (ws : List Cond) (ps : List Nat) (hp : ws = ps.filterMap (fun i => big[i]?)) : ∀ w ∈ ws, w ∈ big := by
  intro w hw
  rw [hp] at hw
  obtain ⟨i, -, hi⟩ := List.mem_filterMap.mp hw
  exact List.mem_of_getElem? hi
set_option maxRecDepth 20000 in
theorem wsL_law_r1_in : ∀ w ∈ wsL_law_r1, w ∈ lw_tbl := mem_pl _ [28, 29, 18, 459, 460, 24, 30, 31, 32, 33, 34, 35, 36, 37, 19, 122, 58, 59, 20, 123, 78, 79, 21, 124] (by decide +kernel)
set_option maxRecDepth 20000 in
theorem wsL_law_r2_in : ∀ w ∈ wsL_law_r2, w ∈ lw_tbl := mem_pl _ [89, 90, 22, 125, 109, 110, 23, 126, 39, 40, 41, 42, 44, 57, 46, 47, 60, 61, 62, 63, 64, 67, 68, 69] (by decide +kernel)
set_option maxRecDepth 20000 in
theorem wsL_law_r3_in : ∀ w ∈ wsL_law_r3, w ∈ lw_tbl := mem_pl _ [81, 82, 83, 84, 85, 92, 93, 94, 95, 96, 97, 98, 112, 113, 114, 115, 116, 461, 462, 463, 464, 466, 467, 469] (by decide +kernel)
set_option maxRecDepth 20000 in
theorem wsL_law_r4_in : ∀ w ∈ wsL_law_r4, w ∈ lw_tbl := mem_pl _ [502, 470, 471, 472, 503, 474, 475, 476, 138, 139, 140, 141, 148, 142, 143, 144, 145, 146, 147, 149, 150, 151, 152, 154] (by decide +kernel)
set_option maxRecDepth 20000 in
theorem wsL_law_r5_in : ∀ w ∈ wsL_law_r5, w ∈ lw_tbl := mem_pl _ [155, 156, 157, 25, 158, 159, 160, 161, 162, 163, 164, 165, 166, 167, 169, 170, 171, 172, 173, 174, 175, 176, 177, 178] (by decide +kernel)
set_option maxRecDepth 20000 in
theorem wsL_law_r6_in : ∀ w ∈ wsL_law_r6, w ∈ lw_tbl := mem_pl _ [179, 180, 181, 182, 183, 184, 26, 185, 186, 187, 188, 189, 190, 191, 192, 193, 195, 196, 504, 505, 506, 507, 465, 514] (by decide +kernel)
set_option maxRecDepth 20000 in
theorem wsL_law_r7_in : ∀ w ∈ wsL_law_r7, w ∈ lw_tbl := mem_pl _ [508, 509, 510, 511, 512, 513, 515, 517, 4, 518, 468, 519, 521, 5, 522, 523, 525, 6, 526, 197, 198, 199, 200, 201] (by decide +kernel)
set_option maxRecDepth 20000 in
theorem wsL_law_r8_in : ∀ w ∈ wsL_law_r8, w ∈ lw_tbl := mem_pl _ [202, 203, 204, 205, 206, 207, 208, 209, 527, 528, 529, 530, 531, 532, 533, 534, 535, 536, 210, 211, 212, 213, 227, 235] (by decide +kernel)
set_option maxRecDepth 20000 in
theorem wsL_law_r9_in : ∀ w ∈ wsL_law_r9, w ∈ lw_tbl := mem_pl _ [214, 215, 216, 217, 218, 219, 220, 221, 223, 224, 225, 226, 228, 230, 0, 231, 233, 232, 234, 236, 237, 238, 239, 537] (by decide +kernel)
set_option maxRecDepth 20000 in
theorem wsL_law_r10_in : ∀ w ∈ wsL_law_r10, w ∈ lw_tbl := mem_pl _ [538, 539, 540, 545, 549, 550, 541, 543, 7, 544, 546, 547, 548, 240, 241, 242, 243, 244, 245, 246, 247, 248, 249, 250] (by decide +kernel)
set_option maxRecDepth 20000 in
theorem wsL_law_r11_in : ∀ w ∈ wsL_law_r11, w ∈ lw_tbl := mem_pl _ [551, 552, 553, 554, 555, 557, 8, 558, 559, 560, 561, 251, 252, 253, 254, 562, 563, 564, 565, 255, 256, 257, 258, 287] (by decide +kernel)
set_option maxRecDepth 20000 in
theorem wsL_law_r12_in : ∀ w ∈ wsL_law_r12, w ∈ lw_tbl := mem_pl _ [259, 260, 261, 262, 263, 264, 265, 266, 267, 268, 269, 270, 271, 272, 273, 274, 275, 276, 277, 278, 279, 281, 282, 283] (by decide +kernel)
set_option maxRecDepth 20000 in
theorem wsL_law_r13_in : ∀ w ∈ wsL_law_r13, w ∈ lw_tbl := mem_pl _ [284, 285, 286, 566, 567, 568, 569, 590, 570, 572, 9, 573, 574, 576, 10, 577, 578, 580, 11, 581, 582, 584, 12, 585] (by decide +kernel)
set_option maxRecDepth 20000 in
theorem wsL_law_r14_in : ∀ w ∈ wsL_law_r14, w ∈ lw_tbl := mem_pl _ [586, 588, 13, 589, 591, 593, 14, 594, 288, 289, 290, 291, 292, 293, 294, 295, 595, 596, 597, 598, 296, 297, 298, 299] (by decide +kernel)
set_option maxRecDepth 20000 in
theorem wsL_law_r15_in : ∀ w ∈ wsL_law_r15, w ∈ lw_tbl := mem_pl _ [302, 300, 301, 303, 304, 599, 600, 601, 602, 603, 305, 306, 307, 308, 309, 310, 311, 312, 25, 313, 314, 315, 316, 317] (by decide +kernel)
set_option maxRecDepth 20000 in
theorem wsL_law_r16_in : ∀ w ∈ wsL_law_r16, w ∈ lw_tbl := mem_pl _ [318, 27, 319, 320, 321, 322, 604, 605, 606, 607, 608, 609, 610, 611, 612, 323, 324, 325, 326, 327, 328, 329, 613, 614] (by decide +kernel)
set_option maxRecDepth 20000 in
theorem wsL_law_r17_in : ∀ w ∈ wsL_law_r17, w ∈ lw_tbl := mem_pl _ [615, 616, 617, 618, 619, 330, 331, 332, 333, 334, 335, 336, 620, 621, 622, 623, 337, 338, 339, 340, 624, 625, 626, 627] (by decide +kernel)
set_option maxRecDepth 20000 in
theorem wsL_law_r18_in : ∀ w ∈ wsL_law_r18, w ∈ lw_tbl := mem_pl _ [341, 342, 343, 344, 345, 346, 347, 628, 629, 630, 631, 348, 349, 350, 351, 352, 353, 354, 632, 633, 634, 635, 355, 356] (by decide +kernel)
set_option maxRecDepth 20000 in
theorem wsL_law_r19_in : ∀ w ∈ wsL_law_r19, w ∈ lw_tbl := mem_pl _ [357, 358, 636, 637, 638, 639, 359, 360, 361, 362, 363, 364, 365, 366, 367, 368, 370, 1, 371, 372, 373, 374, 377, 378] (by decide +kernel)
set_option maxRecDepth 20000 in
theorem wsL_law_r20_in : ∀ w ∈ wsL_law_r20, w ∈ lw_tbl := mem_pl _ [379, 640, 641, 642, 643, 644, 645, 646, 380, 381, 382, 383, 388, 384, 385, 386, 387, 647, 648, 649, 650, 473, 651, 389] (by decide +kernel)
set_option maxRecDepth 20000 in
theorem wsL_law_r21_in : ∀ w ∈ wsL_law_r21, w ∈ lw_tbl := mem_pl _ [390, 391, 392, 652, 653, 654, 655, 393, 394, 395, 396, 397, 398, 399, 400, 401, 403, 2, 404, 406, 407, 408, 409, 411] (by decide +kernel)
set_option maxRecDepth 20000 in
theorem wsL_law_r22_in : ∀ w ∈ wsL_law_r22, w ∈ lw_tbl := mem_pl _ [410, 656, 657, 658, 659, 660, 662, 15, 663, 412, 413, 414, 415, 416, 417, 418, 419, 424, 420, 422, 3, 423, 664, 665] (by decide +kernel)
set_option maxRecDepth 20000 in
theorem wsL_law_r23_in : ∀ w ∈ wsL_law_r23, w ∈ lw_tbl := mem_pl _ [666, 667, 425, 426, 427, 428, 429, 430, 431, 432, 433, 434, 435, 438, 668, 669, 670, 671, 439, 440, 441, 442, 443, 444] (by decide +kernel)
set_option maxRecDepth 20000 in
theorem wsL_law_r24_in : ∀ w ∈ wsL_law_r24, w ∈ lw_tbl := mem_pl _ [445, 446, 447, 448, 449, 450, 672, 673, 674, 675, 451, 452, 453, 454, 455, 456, 457, 458, 676, 677, 678, 679, 680, 682] (by decide +kernel)
set_option maxRecDepth 20000 in
theorem wsL_law_r25_in : ∀ w ∈ wsL_law_r25, w ∈ lw_tbl := mem_pl _ [16, 683] (by decide +kernel)
set_option maxRecDepth 20000 in
theorem inX0 : ∀ w ∈ wsX00, w ∈ lw_tbl := mem_pl _ [86] (by decide +kernel)
set_option maxRecDepth 20000 in
theorem inX1 : ∀ w ∈ wsX10, w ∈ lw_tbl := mem_pl _ [117, 119] (by decide +kernel)
set_option maxRecDepth 20000 in
theorem inX2 : ∀ w ∈ wsX20, w ∈ lw_tbl := mem_pl _ [48, 50, 52, 54] (by decide +kernel)
set_option maxRecDepth 20000 in
theorem inX3 : ∀ w ∈ wsX30, w ∈ lw_tbl := mem_pl _ [71, 73, 75] (by decide +kernel)
set_option maxRecDepth 20000 in
theorem inX4 : ∀ w ∈ wsX40, w ∈ lw_tbl := mem_pl _ [100, 102, 104, 106] (by decide +kernel)
set_option maxRecDepth 20000 in
theorem inX5 : ∀ w ∈ wsX50, w ∈ lw_tbl := mem_pl _ [127, 129, 131, 133, 135] (by decide +kernel)
set_option maxRecDepth 20000 in
theorem inX6 : ∀ w ∈ wsX60, w ∈ lw_tbl := mem_pl _ [477, 479, 481, 483, 485, 487, 489, 491, 493, 495, 497, 499] (by decide +kernel)
theorem ml_app {a b t : List Cond} (ha : ∀ w ∈ a, w ∈ t) (hb : ∀ w ∈ b, w ∈ t) : ∀ w ∈ a ++ b, w ∈ t := fun w h => (List.mem_append.mp h).elim (ha w) (hb w)
theorem wsL_law_in : ∀ w ∈ wsL_law, w ∈ lw_tbl := ml_app (ml_app (ml_app (ml_app (ml_app (ml_app (ml_app (ml_app (ml_app wsL_law_r1_in (ml_app wsL_law_r2_in (ml_app wsL_law_r3_in (ml_app wsL_law_r4_in (ml_app wsL_law_r5_in (ml_app wsL_law_r6_in (ml_app wsL_law_r7_in (ml_app wsL_law_r8_in (ml_app wsL_law_r9_in (ml_app wsL_law_r10_in (ml_app wsL_law_r11_in (ml_app wsL_law_r12_in (ml_app wsL_law_r13_in (ml_app wsL_law_r14_in (ml_app wsL_law_r15_in (ml_app wsL_law_r16_in (ml_app wsL_law_r17_in (ml_app wsL_law_r18_in (ml_app wsL_law_r19_in (ml_app wsL_law_r20_in (ml_app wsL_law_r21_in (ml_app wsL_law_r22_in (ml_app wsL_law_r23_in (ml_app wsL_law_r24_in (wsL_law_r25_in))))))))))))))))))))))))) inX5) inX6) inX2) inX3) inX0) inX4) inX1) (fun _ h => absurd h List.not_mem_nil)
set_option maxRecDepth 20000 in
theorem lw_NW {args : Array Value} {s : State} (hts : ∀ w ∈ lw_tbl, w.before args s = true) : NW s := ⟨(List.forall_mem_cons.mpr ⟨va_Nw.of rfl (hts _ (List.mem_of_getElem? (i := 43) (by decide +kernel))), (List.forall_mem_cons.mpr ⟨va_Nw.of rfl (hts _ (List.mem_of_getElem? (i := 45) (by decide +kernel))), (List.forall_mem_cons.mpr ⟨va_Nw.of rfl (hts _ (List.mem_of_getElem? (i := 70) (by decide +kernel))), (List.forall_mem_cons.mpr ⟨va_Nw.of rfl (hts _ (List.mem_of_getElem? (i := 99) (by decide +kernel))), fun _ h => absurd h List.not_mem_nil⟩)⟩)⟩)⟩), (List.forall_mem_cons.mpr ⟨va_Nw.of rfl (hts _ (List.mem_of_getElem? (i := 38) (by decide +kernel))), (List.forall_mem_cons.mpr ⟨va_Nw.of rfl (hts _ (List.mem_of_getElem? (i := 66) (by decide +kernel))), (List.forall_mem_cons.mpr ⟨va_Nw.of rfl (hts _ (List.mem_of_getElem? (i := 80) (by decide +kernel))), (List.forall_mem_cons.mpr ⟨va_Nw.of rfl (hts _ (List.mem_of_getElem? (i := 91) (by decide +kernel))), (List.forall_mem_cons.mpr ⟨va_Nw.of rfl (hts _ (List.mem_of_getElem? (i := 111) (by decide +kernel))), (List.forall_mem_cons.mpr ⟨va_Nw.of rfl (hts _ (List.mem_of_getElem? (i := 153) (by decide +kernel))), (List.forall_mem_cons.mpr ⟨va_Nw.of rfl (hts _ (List.mem_of_getElem? (i := 168) (by decide +kernel))), (List.forall_mem_cons.mpr ⟨va_Nw.of rfl (hts _ (List.mem_of_getElem? (i := 194) (by decide +kernel))), (List.forall_mem_cons.mpr ⟨va_Nw.of rfl (hts _ (List.mem_of_getElem? (i := 222) (by decide +kernel))), (List.forall_mem_cons.mpr ⟨va_Nw.of rfl (hts _ (List.mem_of_getElem? (i := 280) (by decide +kernel))), (List.forall_mem_cons.mpr ⟨va_Nw.of rfl (hts _ (List.mem_of_getElem? (i := 375) (by decide +kernel))), (List.forall_mem_cons.mpr ⟨va_Nw.of rfl (hts _ (List.mem_of_getElem? (i := 376) (by decide +kernel))), (List.forall_mem_cons.mpr ⟨va_Nw.of rfl (hts _ (List.mem_of_getElem? (i := 405) (by decide +kernel))), (List.forall_mem_cons.mpr ⟨va_Nw.of rfl (hts _ (List.mem_of_getElem? (i := 436) (by decide +kernel))), (List.forall_mem_cons.mpr ⟨va_Nw.of rfl (hts _ (List.mem_of_getElem? (i := 437) (by decide +kernel))), fun _ h => absurd h List.not_mem_nil⟩)⟩)⟩)⟩)⟩)⟩)⟩)⟩)⟩)⟩)⟩)⟩)⟩)⟩)⟩), va_AO.of (hts _ (List.mem_of_getElem? (i := 65) (by decide +kernel)))⟩
theorem lw_arr {args : Array Value} {s : State} {ty : FieldType} (h : (Cond.arrayClass ty).before args s = true) : ∃ cA : ClassId, ArrOfT s cA ty ∧ s.vm.findClass ("[" ++ ty.toString) = some cA := by
  obtain ⟨cA, kA, comp, h1, h2, h3⟩ := Cond.arrayClass_spec h
  exact ⟨cA, fun n z => ⟨fun k h => (by cases h), kA, h2, comp, h3⟩, h1⟩
set_option maxRecDepth 20000 in
theorem lw_K {args : Array Value} {s : State} (hts : ∀ w ∈ lw_tbl, w.before args s = true) : ∃ K : Cx, ¬ okN (snK K) ∧ va_K K.1 vwCl (tyL K) s := by
  obtain ⟨cX0, iX0, hnX0⟩ := u_known (C := RX0) (T := TX0) (N := 1) (n := 1) hts inX0 (hts (.instantiable RX0 1) (List.mem_of_getElem? (i := 79) (by decide +kernel)))
  obtain ⟨cX1, iX1, hnX1⟩ := u_known (C := RX1) (T := TX1) (N := 2) (n := 2) hts inX1 (hts (.instantiable RX1 2) (List.mem_of_getElem? (i := 110) (by decide +kernel)))
  obtain ⟨cX2, iX2, hnX2⟩ := u_known (C := RX2) (T := TX2) (N := 4) (n := 4) hts inX2 (hts (.instantiable RX2 4) (List.mem_of_getElem? (i := 37) (by decide +kernel)))
  obtain ⟨cX3, iX3, hnX3⟩ := u_known (C := RX3) (T := TX3) (N := 3) (n := 3) hts inX3 (hts (.instantiable RX3 3) (List.mem_of_getElem? (i := 59) (by decide +kernel)))
  obtain ⟨cX4, iX4, hnX4⟩ := u_known (C := RX4) (T := TX4) (N := 4) (n := 4) hts inX4 (hts (.instantiable RX4 4) (List.mem_of_getElem? (i := 90) (by decide +kernel)))
  obtain ⟨cX5, iX5, hnX5⟩ := u_known (C := RX5) (T := TX5) (N := 5) (n := 5) hts inX5 (hts (.instantiable RX5 5) (List.mem_of_getElem? (i := 29) (by decide +kernel)))
  obtain ⟨cX6, iX6, hnX6⟩ := u_known (C := RX6) (T := TX6) (N := 12) (n := 12) hts inX6 (hts (.instantiable RX6 12) (List.mem_of_getElem? (i := 460) (by decide +kernel)))
  obtain ⟨cyI, haI, hfI⟩ := lw_arr (hts (.arrayClass .int) (List.mem_of_getElem? (i := 57) (by decide +kernel)))
  obtain ⟨cyJ, haJ, hfJ⟩ := lw_arr (hts (.arrayClass .long) (List.mem_of_getElem? (i := 503) (by decide +kernel)))
  obtain ⟨cyZ, haZ, hfZ⟩ := lw_arr (hts (.arrayClass .boolean) (List.mem_of_getElem? (i := 502) (by decide +kernel)))
  have hAO : va_AO "CodedWords$Code" s := (lw_NW hts).2.2
  obtain ⟨comp, cO, kO, f1, -, f3, f4, f5⟩ := Cond.arrayOver_spec hAO
  refine ⟨((fun k => if k = 0 then cX0 else if k = 1 then cX1 else if k = 2 then cX2 else if k = 3 then cX3 else if k = 4 then cX4 else if k = 5 then cX5 else cX6, fun k => if k = 0 then iX0 else if k = 1 then iX1 else if k = 2 then iX2 else if k = 3 then iX3 else if k = 4 then iX4 else if k = 5 then iX5 else iX6), cyI, cyJ, cyZ, cO, (-1, fun _ => 0, fun _ => 0)), fun hq => absurd (show (0 : Int) ≤ (-1 : Int32).toInt from hq.1.1) (by decide), ?_, ?_⟩
  · intro k q hq
    match k, hq with
    | 0, hq => cases hq; exact hnX0
    | 1, hq => cases hq; exact hnX1
    | 2, hq => cases hq; exact hnX2
    | 3, hq => cases hq; exact hnX3
    | 4, hq => cases hq; exact hnX4
    | 5, hq => cases hq; exact hnX5
    | 6, hq => cases hq; exact hnX6
    | k + 7, hq => simp [vwCl] at hq
  · intro k q hq
    match k, hq with
    | 0, hq => cases hq; exact ⟨haI, hfI⟩
    | 1, hq => cases hq; exact ⟨haJ, hfJ⟩
    | 2, hq => cases hq; exact ⟨haZ, hfZ⟩
    | 3, hq => cases hq; exact ⟨fun n z => ⟨(fun k h => by cases h), kO, f3, comp, f4⟩, kO, comp, f3, f4, f1, f5⟩
    | k + 4, hq => simp [tyL] at hq
