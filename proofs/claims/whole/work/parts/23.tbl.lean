set_option maxRecDepth 100000 in
theorem gWc_tbl : gWc = [44, 134, 240, 291, 304, 313, 320, 328, 335, 344, 356, 394, 402, 427, 435, 248, 348, 244, 406, 359, 268, 138, 211, 231, 439, 364, 372, 411, 415, 419, 444, 523, 535, 531, 547, 551, 539, 527, 543, 555, 560, 565, 569, 573, 577, 582, 594, 590, 586, 598, 618, 614, 610, 606, 602, 623, 627, 52, 368, 376, 384, 380, 387, 128, 234, 287, 300, 309, 316, 324, 331, 340, 352, 390, 398, 423, 431, 47, 297].filterMap (fun i => lw_tbl[i]?) := rfl
theorem gWo_tbl : ∀ w ∈ gWo, w ∈ lw_tbl := by decide +kernel
theorem gWt_IOB_tbl : ∀ w ∈ gWt_IOB, w ∈ lw_tbl := by decide +kernel
theorem gWt_ISE_tbl : ∀ w ∈ gWt_ISE, w ∈ lw_tbl := by decide +kernel
theorem gWt_IAE_tbl : ∀ w ∈ gWt_IAE, w ∈ lw_tbl := by decide +kernel
theorem gWt_UOE_tbl : ∀ w ∈ gWt_UOE, w ∈ lw_tbl := by decide +kernel
theorem gW_tbl : ∀ w ∈ gW, w ∈ lw_tbl := by
  intro w hw
  rcases List.mem_append.mp hw with h | hw
  · rw [gWc_tbl] at h
    obtain ⟨i, -, hi⟩ := List.mem_filterMap.mp h
    exact List.mem_of_getElem? hi
  rcases List.mem_append.mp hw with h | hw
  · exact gWo_tbl w h
  rcases List.mem_append.mp hw with h | hw
  · exact gWt_IOB_tbl w h
  rcases List.mem_append.mp hw with h | hw
  · exact gWt_ISE_tbl w h
  rcases List.mem_append.mp hw with h | hw
  · exact gWt_IAE_tbl w h
  · exact gWt_UOE_tbl w hw
theorem gNW_tbl : ∀ w ∈ gNW, w ∈ lw_tbl := by decide +kernel
theorem gSR_tbl : ∀ q ∈ gSR, Cond.stringRef q.1 q.2.1 q.2.2 ∈ lw_tbl := by decide +kernel
set_option maxRecDepth 100000 in
theorem gSR_nar : ∀ q ∈ gSR, Cond.exactly (.string q.1 q.2.1) "java/lang/String" ∈ flatC (Jvm.Cond.and given_1 narrow_1) := by decide +kernel
set_option maxRecDepth 100000 in
theorem gNC_nar : ∀ q ∈ gNC, Cond.not (.castable q.1 q.2) ∈ flatC (Jvm.Cond.and given_1 narrow_1) := by decide +kernel
set_option maxRecDepth 100000 in
/-- what the run takes as given holds at the law's start -/
theorem g_start {s : State} {b : Nat} (hts : ∀ w ∈ lw_tbl, w.before #[Value.ref b] s = true) (hgv : (Jvm.Cond.and given_1 narrow_1).before #[Value.ref b] s = true) : gGF (fun q : Nat => s.heap.size ≤ q) s := by
  have hs := flat_of_before _ hgv
  refine ⟨fun w hw => va_Nw.of (gNW_t w hw) (hts w (gNW_tbl w hw)), fun q hq => va_Nc.of (hs _ (gNC_nar q hq)), fun q hq => ?_, ?_, ?_⟩
  · obtain ⟨a, -, -, -, q1, -⟩ := Cond.exactly_spec (args := #[Value.ref b]) (first := s) (o := none) (s := s) (idx := []) (t := .string q.1 q.2.1) (cls := "java/lang/String") (hs _ (gSR_nar q hq))
    exact ⟨a, vk_R.of (hts _ (gSR_tbl q hq)) q1⟩
  · exact vx_Zqof (hts _ (by decide +kernel)) (hts _ (by decide +kernel)) (hs _ (by decide +kernel)) (fun a h9 => Nat.not_le.mpr h9)
  · exact vx_Zqof (hts _ (by decide +kernel)) (hts _ (by decide +kernel)) (hs _ (by decide +kernel)) (fun a h9 => Nat.not_le.mpr h9)
