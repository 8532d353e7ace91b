set_option maxRecDepth 100000 in
theorem gWc_tbl : gWc = [44, 134, 240, 291, 304, 313, 320, 328, 335, 344, 356, 394, 402, 427, 435, 248, 348, 244, 406, 359, 268, 138, 211, 231, 439, 364, 372, 411, 415, 419, 444, 523, 535, 531, 547, 551, 539, 527, 543, 555, 560, 565, 569, 573, 577, 582, 594, 590, 586, 598, 618, 614, 610, 606, 602, 623, 627, 52, 368, 376, 384, 380, 387, 128, 234, 287, 300, 309, 316, 324, 331, 340, 352, 390, 398, 423, 431, 47, 297].filterMap (fun i => lw_tbl[i]?) := rfl
set_option maxRecDepth 100000 in
theorem gWo_ix : gWo = [28, 29, 30, 31, 33, 34, 35, 36, 37, 38, 39, 40, 41, 42, 43, 45, 46, 48, 49, 51, 53, 54, 56, 58, 60, 63, 64, 65, 66, 67, 68, 69, 70, 71, 72, 73, 74, 75, 76, 77, 78, 79, 80, 81, 82, 83, 84, 85, 87, 89, 91, 93, 95, 97, 99, 101, 103, 105, 107, 109, 111, 113, 115, 117, 119, 121, 123, 126, 127, 129, 130, 131, 132, 133, 135, 136, 137, 139, 140, 182, 183, 185, 186, 188, 189, 207, 208, 210, 212, 213, 222, 223, 225, 228, 230, 232, 233, 235, 236, 237, 238, 239, 241, 243, 245, 247, 249, 250, 259, 260, 262, 265, 267, 269, 270, 279, 280, 282, 285, 286, 288, 289, 290, 293, 295, 296, 298, 299, 301, 302, 303, 307, 308, 310, 311, 312, 314, 315, 317, 318, 319, 322, 323, 325, 326, 327, 329, 330, 332, 333, 334, 336, 338, 339, 341, 342, 343, 345, 347, 350, 351, 353, 354, 355, 357, 358, 361, 363, 367, 369, 371, 375, 379, 383, 385, 386, 388, 389, 391, 392, 393, 396, 397, 399, 400, 401, 403, 405, 408, 410, 412, 414, 416, 418, 420, 421, 422, 424, 425, 426, 429, 430, 432, 433, 434, 436, 438, 440, 441, 442, 443, 445, 446, 447, 448, 449, 450, 451, 452, 453, 454, 455, 456, 457, 458, 459, 460, 461, 462, 463, 464, 465, 466, 467, 468, 469, 470, 472, 474, 476, 478, 480, 482, 484, 486, 488, 490, 492, 494, 496, 498, 500, 502, 504, 506, 508, 510, 512, 514, 516, 519, 520, 521, 522, 524, 525, 526, 528, 529, 530, 532, 534, 536, 538, 540, 541, 542, 544, 546, 548, 550, 552, 553, 554, 556, 557, 558, 559, 561, 562, 563, 564, 566, 567, 568, 570, 571, 572, 574, 575, 576, 578, 579, 580, 581, 583, 584, 585, 587, 589, 591, 593, 595, 596, 597, 599, 600, 601, 603, 605, 607, 609, 611, 613, 615, 617, 619, 620, 621, 622, 624, 625, 626, 1, 2, 3, 4, 5, 6, 7, 8, 9, 10, 11, 12, 13, 14, 15, 16, 17, 18, 19, 20, 21, 22, 23, 24, 25, 26, 27].filterMap (fun i => lw_tbl[i]?) := rfl
theorem gWo_tbl : ∀ w ∈ gWo, w ∈ lw_tbl := by
  intro w h
  rw [gWo_ix] at h
  obtain ⟨i, -, hi⟩ := List.mem_filterMap.mp h
  exact List.mem_of_getElem? hi
theorem gWt_IOB_tbl : ∀ w ∈ gWt_IOB, w ∈ lw_tbl := by decide +kernel
theorem gWt_ISE_tbl : ∀ w ∈ gWt_ISE, w ∈ lw_tbl := by decide +kernel
theorem gWt_IAE_tbl : ∀ w ∈ gWt_IAE, w ∈ lw_tbl := by decide +kernel
theorem gWt_UOE_tbl : ∀ w ∈ gWt_UOE, w ∈ lw_tbl := by decide +kernel
theorem gW_tbl : ∀ w ∈ gW, w ∈ lw_tbl := by
  intro w hw
  rcases List.mem_append.mp hw with h | hw
  · rw [gWc_tbl] at h
    obtain ⟨i, -, hi⟩ := List.mem_filterMap.mp h
    exact List.mem_of_getElem? hi
  rcases List.mem_append.mp hw with h | hw
  · exact gWo_tbl w h
  rcases List.mem_append.mp hw with h | hw
  · exact gWt_IOB_tbl w h
  rcases List.mem_append.mp hw with h | hw
  · exact gWt_ISE_tbl w h
  rcases List.mem_append.mp hw with h | hw
  · exact gWt_IAE_tbl w h
  · exact gWt_UOE_tbl w hw
theorem gNW_tbl : ∀ w ∈ gNW, w ∈ lw_tbl := by decide +kernel
theorem gSR_tbl : ∀ q ∈ gSR, Cond.stringRef q.1 q.2.1 q.2.2 ∈ lw_tbl := by decide +kernel
set_option maxRecDepth 100000 in
theorem gSR_nar : ∀ q ∈ gSR, Cond.exactly (.string q.1 q.2.1) "java/lang/String" ∈ flatC (Jvm.Cond.and given_1 narrow_1) := by decide +kernel
set_option maxRecDepth 100000 in
theorem gNC_nar : ∀ q ∈ gNC, Cond.not (.castable q.1 q.2) ∈ flatC (Jvm.Cond.and given_1 narrow_1) := by decide +kernel
set_option maxRecDepth 100000 in
/-- what the run takes as given holds at the law's start -/
theorem g_start {s : State} {b : Nat} (hts : ∀ w ∈ lw_tbl, w.before #[Value.ref b] s = true) (hgv : (Jvm.Cond.and given_1 narrow_1).before #[Value.ref b] s = true) : gGF (fun q : Nat => s.heap.size ≤ q) s := by
  have hs := flat_of_before _ hgv
  refine ⟨fun w hw => va_Nw.of (gNW_t w hw) (hts w (gNW_tbl w hw)), fun q hq => va_Nc.of (hs _ (gNC_nar q hq)), fun q hq => ?_, ?_, ?_⟩
  · obtain ⟨a, -, -, -, q1, -⟩ := Cond.exactly_spec (args := #[Value.ref b]) (first := s) (o := none) (s := s) (idx := []) (t := .string q.1 q.2.1) (cls := "java/lang/String") (hs _ (gSR_nar q hq))
    exact ⟨a, vk_R.of (hts _ (gSR_tbl q hq)) q1⟩
  · exact vx_Zqof (hts _ (by decide +kernel)) (hts _ (by decide +kernel)) (hs _ (by decide +kernel)) (fun a h9 => Nat.not_le.mpr h9)
  · exact vx_Zqof (hts _ (by decide +kernel)) (hts _ (by decide +kernel)) (hs _ (by decide +kernel)) (fun a h9 => Nat.not_le.mpr h9)
