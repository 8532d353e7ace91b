def wp_X_isPiece (post : Int32 → XSt → Prop) (p0 : Int32) (S : XSt) : Prop := ((p0 < 0 → (post 0 S)) ∧ (¬ p0 < 0 → (((xpc S) ≤ p0 → (post 0 S)) ∧ (¬ (xpc S) ≤ p0 → (post 1 S)))))
set_option maxHeartbeats 4000000 in
set_option maxRecDepth 100000 in
theorem c_X_isPiece (l : Launch) (hl9 : l.stackTraces = false) (D : va_G) (cI cL cZ : ClassId) (h : Nat) (a : Nat → Nat) (post : Int32 → XSt → Prop) (p0 : Int32) (S : XSt) (hw : wp_X_isPiece post p0 S) : gMz l yX_isPiece wsX_isPiece ({ frames := 0, cells := 0, slots := 0, locals := 0 }) D [(cI, .int), (cL, .long), (cZ, .boolean)] [.ref h, .int p0] (XW cI cL cZ h a S) (XW cI cL cZ h a) post := by
  refine g_ofMz (cc := cX_isPiece) (maxL := 2) (ret := (some .boolean)) (own := RX9) (by decide) rfl rfl (Nat.le_of_ble_eq_true rfl) ?_
  intro p e s m below meth c A H locs ls C hr hlocks hK hG hA hP hD hS hl
  obtain ⟨hx, hb, hml, hown, hts⟩ := id C
  have hts := fun w (h9 : w ∈ gW) => hts w (List.mem_cons_of_mem _ h9)
  have hto := fun w (h9 : w ∈ gWo) => hts w (gWo_in w h9)
  have hl : lv_has ls 2 [(0, .ref h), (1, .int p0)] := hl
  dsimp only [wp_X_isPiece] at hw
  refine lv_iload_n hx hb dX_isPiece_0 rfl (lv_at hl 1 rfl) ?_
  refine lv_if_lt (tgt := 16) hx hb dX_isPiece_1 (by decide) (fun c1 => ?_) (fun c1 => ?_)
  · have hw := hw.1 c1
    refine lv_iconst (v := 0) hx hb dX_isPiece_16 (by decide) ?_
    exact gr_z hx hb hr hlocks (Or.inl rfl) hK hP hD hS hw (Nat.le_of_ble_eq_true rfl) (Nat.le_of_ble_eq_true rfl) dX_isPiece_17
  · have hw := hw.2 c1
    refine lv_iload_n hx hb dX_isPiece_4 rfl (lv_at hl 1 rfl) ?_
    refine lv_aload_n hx hb dX_isPiece_5 rfl (lv_at hl 0 rfl) ?_
    refine va_get (ci := 1) (v := .int (xpc S)) (C := RX9) (T := TX9) (N := 20) hx hb hts iX9 hown hK hP 0 (XWc_0 cI cL cZ h a S) rfl 10 (by decide) (hto (.fieldLink RX9 157 "PieceTrace" "pieceCount" "I") (by decide +kernel)) (fun _ h9 => h9) rfl dX_isPiece_6 ?_
    refine lv_icmp_ge (tgt := 16) hx hb dX_isPiece_9 (by decide) (fun c2 => ?_) (fun c2 => ?_)
    · have hw := hw.1 c2
      refine lv_iconst (v := 0) hx hb dX_isPiece_16 (by decide) ?_
      exact gr_z hx hb hr hlocks (Or.inl rfl) hK hP hD hS hw (Nat.le_of_ble_eq_true rfl) (Nat.le_of_ble_eq_true rfl) dX_isPiece_17
    · have hw := hw.2 c2
      refine lv_iconst (v := 1) hx hb dX_isPiece_12 (by decide) ?_
      refine lv_goto (tgt := 17) hx hb dX_isPiece_13 (by decide) ?_
      exact gr_z hx hb hr hlocks (Or.inr rfl) hK hP hD hS hw (Nat.le_of_ble_eq_true rfl) (Nat.le_of_ble_eq_true rfl) dX_isPiece_17
def wp_X_isLive (post : Int32 → XSt → Prop) (p0 : Int32) (S : XSt) : Prop := (vp_in p0 40 ∧ (((xSt S p0.toNatClampNeg) = 0 → (post 1 S)) ∧ (¬ (xSt S p0.toNatClampNeg) = 0 → (vp_in p0 40 ∧ (((xSt S p0.toNatClampNeg) = 3 → (post 1 S)) ∧ (¬ (xSt S p0.toNatClampNeg) = 3 → (post 0 S)))))))
set_option maxHeartbeats 4000000 in
set_option maxRecDepth 100000 in
theorem c_X_isLive (l : Launch) (hl9 : l.stackTraces = false) (D : va_G) (cI cL cZ : ClassId) (h : Nat) (a : Nat → Nat) (post : Int32 → XSt → Prop) (p0 : Int32) (S : XSt) (hw : wp_X_isLive post p0 S) : gMz l yX_isLive wsX_isLive ({ frames := 0, cells := 0, slots := 0, locals := 0 }) D [(cI, .int), (cL, .long), (cZ, .boolean)] [.ref h, .int p0] (XW cI cL cZ h a S) (XW cI cL cZ h a) post := by
  refine g_ofMz (cc := cX_isLive) (maxL := 2) (ret := (some .boolean)) (own := RX9) (by decide) rfl rfl (Nat.le_of_ble_eq_true rfl) ?_
  intro p e s m below meth c A H locs ls C hr hlocks hK hG hA hP hD hS hl
  obtain ⟨hx, hb, hml, hown, hts⟩ := id C
  have hts := fun w (h9 : w ∈ gW) => hts w (List.mem_cons_of_mem _ h9)
  have hto := fun w (h9 : w ∈ gWo) => hts w (gWo_in w h9)
  have hl : lv_has ls 2 [(0, .ref h), (1, .int p0)] := hl
  dsimp only [wp_X_isLive] at hw
  refine lv_aload_n hx hb dX_isLive_0 rfl (lv_at hl 0 rfl) ?_
  refine va_get (ci := 1) (v := .ref (a 3)) (C := RX9) (T := TX9) (N := 20) hx hb hts iX9 hown hK hP 0 (XWc_0 cI cL cZ h a S) rfl 3 (by decide) (hto (.fieldLink RX9 19 "PieceTrace" "states" "[I") (by decide +kernel)) (fun _ h9 => h9) rfl dX_isLive_1 ?_
  refine lv_iload_n hx hb dX_isLive_4 rfl (lv_at hl 1 rfl) ?_
  obtain ⟨hi1, hw⟩ := hw
  refine va_iald (f := (xSt S)) hx hb hK hP 4 0 (XWc_4 cI cL cZ h a S) rfl hi1 dX_isLive_5 ?_
  refine lv_if_eq (tgt := 19) hx hb dX_isLive_6 (by decide) (fun c2 => ?_) (fun c2 => ?_)
  · have hw := hw.1 c2
    refine lv_iconst (v := 1) hx hb dX_isLive_19 (by decide) ?_
    refine lv_goto (tgt := 24) hx hb dX_isLive_20 (by decide) ?_
    exact gr_z hx hb hr hlocks (Or.inr rfl) hK hP hD hS hw (Nat.le_of_ble_eq_true rfl) (Nat.le_of_ble_eq_true rfl) dX_isLive_24
  · have hw := hw.2 c2
    refine lv_aload_n hx hb dX_isLive_9 rfl (lv_at hl 0 rfl) ?_
    refine va_get (ci := 1) (v := .ref (a 3)) (C := RX9) (T := TX9) (N := 20) hx hb hts iX9 hown hK hP 0 (XWc_0 cI cL cZ h a S) rfl 3 (by decide) (hto (.fieldLink RX9 19 "PieceTrace" "states" "[I") (by decide +kernel)) (fun _ h9 => h9) rfl dX_isLive_10 ?_
    refine lv_iload_n hx hb dX_isLive_13 rfl (lv_at hl 1 rfl) ?_
    obtain ⟨hi3, hw⟩ := hw
    refine va_iald (f := (xSt S)) hx hb hK hP 4 0 (XWc_4 cI cL cZ h a S) rfl hi3 dX_isLive_14 ?_
    refine lv_iconst (v := 3) hx hb dX_isLive_15 (by decide) ?_
    refine lv_icmp_ne (tgt := 23) hx hb dX_isLive_16 (by decide) (fun c4 => ?_) (fun c4 => ?_)
    · have hw := hw.2 c4
      refine lv_iconst (v := 0) hx hb dX_isLive_23 (by decide) ?_
      exact gr_z hx hb hr hlocks (Or.inl rfl) hK hP hD hS hw (Nat.le_of_ble_eq_true rfl) (Nat.le_of_ble_eq_true rfl) dX_isLive_24
    · have hw := hw.1 c4
      refine lv_iconst (v := 1) hx hb dX_isLive_19 (by decide) ?_
      refine lv_goto (tgt := 24) hx hb dX_isLive_20 (by decide) ?_
      exact gr_z hx hb hr hlocks (Or.inr rfl) hK hP hD hS hw (Nat.le_of_ble_eq_true rfl) (Nat.le_of_ble_eq_true rfl) dX_isLive_24
def wp_X_needPiece (post : XSt → Prop) (xp : String → XSt → Prop) (p0 : Int32) (S : XSt) : Prop := (wp_X_isPiece (fun r2 S1 => ((r2 = 0 → (xp "java/lang/IndexOutOfBoundsException" S1)) ∧ (¬ r2 = 0 → (post S1)))) p0 S)
set_option maxHeartbeats 4000000 in
set_option maxRecDepth 100000 in
theorem c_X_needPiece (l : Launch) (hl9 : l.stackTraces = false) (D : va_G) (cI cL cZ : ClassId) (h : Nat) (a : Nat → Nat) (post : XSt → Prop) (xp : String → XSt → Prop) (p0 : Int32) (S : XSt) (hw : wp_X_needPiece post xp p0 S) : gXv l yX_needPiece wsX_needPiece ({ frames := 6, cells := 1, slots := 6, locals := 82 }) D [(cI, .int), (cL, .long), (cZ, .boolean)] [.ref h, .int p0] (XW cI cL cZ h a S) (XW cI cL cZ h a) post xp := by
  refine g_ofXv (cc := cX_needPiece) (maxL := 2) (ret := none) (own := RX9) (by decide) rfl rfl (Nat.le_of_ble_eq_true rfl) ?_
  intro p e s m below meth c A H locs ls C hr hlocks hEx hK hG hA hP hD hS hl
  obtain ⟨hx, hb, hml, hown, hts⟩ := id C
  have hts := fun w (h9 : w ∈ gW) => hts w (List.mem_cons_of_mem _ h9)
  have hto := fun w (h9 : w ∈ gWo) => hts w (gWo_in w h9)
  have hl : lv_has ls 2 [(0, .ref h), (1, .int p0)] := hl
  dsimp only [wp_X_needPiece] at hw
  refine lv_aload_n hx hb dX_needPiece_0 rfl (lv_at hl 0 rfl) ?_
  refine lv_iload_n hx hb dX_needPiece_1 rfl (lv_at hl 1 rfl) ?_
  refine gk_z (wr := []) (wc := XW cI cL cZ h a S) (wfc := XW cI cL cZ h a) hP hD hS hA (va_runV (As := [.int p0]) (rest := []) C (c_X_isPiece l hl9 D cI cL cZ h a _ p0 S hw H.size) (cwV 1 hts (gGV (by decide +kernel) kX_isPiece) rfl rfl rfl (by decide +kernel) ⟨Nat.le_of_ble_eq_true rfl, Nat.le_of_ble_eq_true rfl⟩) (g_preV (wr := []) (wc := XW cI cL cZ h a S) (ci := 1) hK hG hA hP hD hS rfl (XWc_0 cI cL cZ h a S) rfl) rfl rfl hl.1 rfl (lv_room (Nat.le_of_ble_eq_true rfl)) dX_needPiece_2 ⟨Nat.le_of_ble_eq_true rfl, Nat.le_of_ble_eq_true rfl⟩) (fun r2 S1 hbr2 H locs hw hP hD hS => ?_)
  have hP : va_P D vwCl (XW cI cL cZ h a S1) H := hP
  have hD : va_D A (XW cI cL cZ h a S1) := hD
  refine lv_if_ne (tgt := 18) hx hb dX_needPiece_5 (by decide) (fun c3 => ?_) (fun c3 => ?_)
  · have hw := hw.2 c3
    exact gx_v hx hb hr hlocks hK hP hD hS hw dX_needPiece_18
  · have hw := hw.1 c3
    exact g_throw (own := RX9) (cls := "java/lang/IndexOutOfBoundsException") (text := "no such piece") hx hb hl9 hown (hto (.classLink RX9 86 "java/lang/IndexOutOfBoundsException") (by decide +kernel)) (hto (.initialized "java/lang/IndexOutOfBoundsException") (by decide +kernel)) (hG.2.2.1 (RX9, 167, "no such piece") (by decide +kernel)) (g_at_IOB hts hG) gF_IOB gN_ gO_IOB_86 hG hK hP hD hS (hl.1.trans hml.symm) dX_needPiece_8 dX_needPiece_11 dX_needPiece_12 dX_needPiece_14 dX_needPiece_17 hEx (Nat.le_of_ble_eq_true rfl) (Nat.le_of_ble_eq_true rfl) (Nat.le_of_ble_eq_true rfl) (Nat.le_of_ble_eq_true rfl) hlocks hw (Nat.le_of_ble_eq_true rfl) (Nat.le_of_ble_eq_true rfl)
def wp_X_needDefect (post : XSt → Prop) (xp : String → XSt → Prop) (p0 : Int32) (S : XSt) : Prop := ((p0 < 0 → (xp "java/lang/IndexOutOfBoundsException" S)) ∧ (¬ p0 < 0 → ((p0 < (xdc S) → (post S)) ∧ (¬ p0 < (xdc S) → (xp "java/lang/IndexOutOfBoundsException" S)))))
set_option maxHeartbeats 4000000 in
set_option maxRecDepth 100000 in
theorem c_X_needDefect (l : Launch) (hl9 : l.stackTraces = false) (D : va_G) (cI cL cZ : ClassId) (h : Nat) (a : Nat → Nat) (post : XSt → Prop) (xp : String → XSt → Prop) (p0 : Int32) (S : XSt) (hw : wp_X_needDefect post xp p0 S) : gXv l yX_needDefect wsX_needDefect ({ frames := 6, cells := 1, slots := 6, locals := 82 }) D [(cI, .int), (cL, .long), (cZ, .boolean)] [.ref h, .int p0] (XW cI cL cZ h a S) (XW cI cL cZ h a) post xp := by
  refine g_ofXv (cc := cX_needDefect) (maxL := 2) (ret := none) (own := RX9) (by decide) rfl rfl (Nat.le_of_ble_eq_true rfl) ?_
  intro p e s m below meth c A H locs ls C hr hlocks hEx hK hG hA hP hD hS hl
  obtain ⟨hx, hb, hml, hown, hts⟩ := id C
  have hts := fun w (h9 : w ∈ gW) => hts w (List.mem_cons_of_mem _ h9)
  have hto := fun w (h9 : w ∈ gWo) => hts w (gWo_in w h9)
  have hl : lv_has ls 2 [(0, .ref h), (1, .int p0)] := hl
  dsimp only [wp_X_needDefect] at hw
  refine lv_iload_n hx hb dX_needDefect_0 rfl (lv_at hl 1 rfl) ?_
  refine lv_if_lt (tgt := 12) hx hb dX_needDefect_1 (by decide) (fun c1 => ?_) (fun c1 => ?_)
  · have hw := hw.1 c1
    exact g_throw (own := RX9) (cls := "java/lang/IndexOutOfBoundsException") (text := "no such defect") hx hb hl9 hown (hto (.classLink RX9 86 "java/lang/IndexOutOfBoundsException") (by decide +kernel)) (hto (.initialized "java/lang/IndexOutOfBoundsException") (by decide +kernel)) (hG.2.2.1 (RX9, 169, "no such defect") (by decide +kernel)) (g_at_IOB hts hG) gF_IOB gN_ gO_IOB_86 hG hK hP hD hS (hl.1.trans hml.symm) dX_needDefect_12 dX_needDefect_15 dX_needDefect_16 dX_needDefect_18 dX_needDefect_21 hEx (Nat.le_of_ble_eq_true rfl) (Nat.le_of_ble_eq_true rfl) (Nat.le_of_ble_eq_true rfl) (Nat.le_of_ble_eq_true rfl) hlocks hw (Nat.le_of_ble_eq_true rfl) (Nat.le_of_ble_eq_true rfl)
  · have hw := hw.2 c1
    refine lv_iload_n hx hb dX_needDefect_4 rfl (lv_at hl 1 rfl) ?_
    refine lv_aload_n hx hb dX_needDefect_5 rfl (lv_at hl 0 rfl) ?_
    refine va_get (ci := 1) (v := .int (xdc S)) (C := RX9) (T := TX9) (N := 20) hx hb hts iX9 hown hK hP 0 (XWc_0 cI cL cZ h a S) rfl 14 (by decide) (hto (.fieldLink RX9 142 "PieceTrace" "defectCount" "I") (by decide +kernel)) (fun _ h9 => h9) rfl dX_needDefect_6 ?_
    refine lv_icmp_lt (tgt := 22) hx hb dX_needDefect_9 (by decide) (fun c2 => ?_) (fun c2 => ?_)
    · have hw := hw.1 c2
      exact gx_v hx hb hr hlocks hK hP hD hS hw dX_needDefect_22
    · have hw := hw.2 c2
      exact g_throw (own := RX9) (cls := "java/lang/IndexOutOfBoundsException") (text := "no such defect") hx hb hl9 hown (hto (.classLink RX9 86 "java/lang/IndexOutOfBoundsException") (by decide +kernel)) (hto (.initialized "java/lang/IndexOutOfBoundsException") (by decide +kernel)) (hG.2.2.1 (RX9, 169, "no such defect") (by decide +kernel)) (g_at_IOB hts hG) gF_IOB gN_ gO_IOB_86 hG hK hP hD hS (hl.1.trans hml.symm) dX_needDefect_12 dX_needDefect_15 dX_needDefect_16 dX_needDefect_18 dX_needDefect_21 hEx (Nat.le_of_ble_eq_true rfl) (Nat.le_of_ble_eq_true rfl) (Nat.le_of_ble_eq_true rfl) (Nat.le_of_ble_eq_true rfl) hlocks hw (Nat.le_of_ble_eq_true rfl) (Nat.le_of_ble_eq_true rfl)
def wp_X_needPart (post : XSt → Prop) (xp : String → XSt → Prop) (p0 : Int32) (p1 : Int32) (S : XSt) : Prop := ((p0 < 0 → (xp "java/lang/IndexOutOfBoundsException" S)) ∧ (¬ p0 < 0 → ((p0 ≤ p1 → (post S)) ∧ (¬ p0 ≤ p1 → (xp "java/lang/IndexOutOfBoundsException" S)))))
set_option maxHeartbeats 4000000 in
set_option maxRecDepth 100000 in
theorem c_X_needPart (l : Launch) (hl9 : l.stackTraces = false) (D : va_G) (cI cL cZ : ClassId) (h : Nat) (a : Nat → Nat) (post : XSt → Prop) (xp : String → XSt → Prop) (p0 : Int32) (p1 : Int32) (S : XSt) (hw : wp_X_needPart post xp p0 p1 S) : gXv l yX_needPart wsX_needPart ({ frames := 6, cells := 1, slots := 6, locals := 82 }) D [(cI, .int), (cL, .long), (cZ, .boolean)] [.int p0, .int p1] (XW cI cL cZ h a S) (XW cI cL cZ h a) post xp := by
  refine g_ofXv (cc := cX_needPart) (maxL := 2) (ret := none) (own := RX9) (by decide) rfl rfl (Nat.le_of_ble_eq_true rfl) ?_
  intro p e s m below meth c A H locs ls C hr hlocks hEx hK hG hA hP hD hS hl
  obtain ⟨hx, hb, hml, hown, hts⟩ := id C
  have hts := fun w (h9 : w ∈ gW) => hts w (List.mem_cons_of_mem _ h9)
  have hto := fun w (h9 : w ∈ gWo) => hts w (gWo_in w h9)
  have hl : lv_has ls 2 [(0, .int p0), (1, .int p1)] := hl
  dsimp only [wp_X_needPart] at hw
  refine lv_iload_n hx hb dX_needPart_0 rfl (lv_at hl 0 rfl) ?_
  refine lv_if_lt (tgt := 9) hx hb dX_needPart_1 (by decide) (fun c1 => ?_) (fun c1 => ?_)
  · have hw := hw.1 c1
    exact g_throw (own := RX9) (cls := "java/lang/IndexOutOfBoundsException") (text := "no such part") hx hb hl9 hown (hto (.classLink RX9 86 "java/lang/IndexOutOfBoundsException") (by decide +kernel)) (hto (.initialized "java/lang/IndexOutOfBoundsException") (by decide +kernel)) (hG.2.2.1 (RX9, 171, "no such part") (by decide +kernel)) (g_at_IOB hts hG) gF_IOB gN_ gO_IOB_86 hG hK hP hD hS (hl.1.trans hml.symm) dX_needPart_9 dX_needPart_12 dX_needPart_13 dX_needPart_15 dX_needPart_18 hEx (Nat.le_of_ble_eq_true rfl) (Nat.le_of_ble_eq_true rfl) (Nat.le_of_ble_eq_true rfl) (Nat.le_of_ble_eq_true rfl) hlocks hw (Nat.le_of_ble_eq_true rfl) (Nat.le_of_ble_eq_true rfl)
  · have hw := hw.2 c1
    refine lv_iload_n hx hb dX_needPart_4 rfl (lv_at hl 0 rfl) ?_
    refine lv_iload_n hx hb dX_needPart_5 rfl (lv_at hl 1 rfl) ?_
    refine lv_icmp_le (tgt := 19) hx hb dX_needPart_6 (by decide) (fun c2 => ?_) (fun c2 => ?_)
    · have hw := hw.1 c2
      exact gx_v hx hb hr hlocks hK hP hD hS hw dX_needPart_19
    · have hw := hw.2 c2
      exact g_throw (own := RX9) (cls := "java/lang/IndexOutOfBoundsException") (text := "no such part") hx hb hl9 hown (hto (.classLink RX9 86 "java/lang/IndexOutOfBoundsException") (by decide +kernel)) (hto (.initialized "java/lang/IndexOutOfBoundsException") (by decide +kernel)) (hG.2.2.1 (RX9, 171, "no such part") (by decide +kernel)) (g_at_IOB hts hG) gF_IOB gN_ gO_IOB_86 hG hK hP hD hS (hl.1.trans hml.symm) dX_needPart_9 dX_needPart_12 dX_needPart_13 dX_needPart_15 dX_needPart_18 hEx (Nat.le_of_ble_eq_true rfl) (Nat.le_of_ble_eq_true rfl) (Nat.le_of_ble_eq_true rfl) (Nat.le_of_ble_eq_true rfl) hlocks hw (Nat.le_of_ble_eq_true rfl) (Nat.le_of_ble_eq_true rfl)
def wp_X_needFree (post : XSt → Prop) (xp : String → XSt → Prop) (p0 : Int32) (S : XSt) : Prop := (vp_in p0 40 ∧ (((xSt S p0.toNatClampNeg) = 0 → (post S)) ∧ (¬ (xSt S p0.toNatClampNeg) = 0 → (xp "java/lang/IllegalStateException" S))))
set_option maxHeartbeats 4000000 in
set_option maxRecDepth 100000 in
theorem c_X_needFree (l : Launch) (hl9 : l.stackTraces = false) (D : va_G) (cI cL cZ : ClassId) (h : Nat) (a : Nat → Nat) (post : XSt → Prop) (xp : String → XSt → Prop) (p0 : Int32) (S : XSt) (hw : wp_X_needFree post xp p0 S) : gXv l yX_needFree wsX_needFree ({ frames := 6, cells := 1, slots := 6, locals := 82 }) D [(cI, .int), (cL, .long), (cZ, .boolean)] [.ref h, .int p0] (XW cI cL cZ h a S) (XW cI cL cZ h a) post xp := by
  refine g_ofXv (cc := cX_needFree) (maxL := 2) (ret := none) (own := RX9) (by decide) rfl rfl (Nat.le_of_ble_eq_true rfl) ?_
  intro p e s m below meth c A H locs ls C hr hlocks hEx hK hG hA hP hD hS hl
  obtain ⟨hx, hb, hml, hown, hts⟩ := id C
  have hts := fun w (h9 : w ∈ gW) => hts w (List.mem_cons_of_mem _ h9)
  have hto := fun w (h9 : w ∈ gWo) => hts w (gWo_in w h9)
  have hl : lv_has ls 2 [(0, .ref h), (1, .int p0)] := hl
  dsimp only [wp_X_needFree] at hw
  refine lv_aload_n hx hb dX_needFree_0 rfl (lv_at hl 0 rfl) ?_
  refine va_get (ci := 1) (v := .ref (a 3)) (C := RX9) (T := TX9) (N := 20) hx hb hts iX9 hown hK hP 0 (XWc_0 cI cL cZ h a S) rfl 3 (by decide) (hto (.fieldLink RX9 19 "PieceTrace" "states" "[I") (by decide +kernel)) (fun _ h9 => h9) rfl dX_needFree_1 ?_
  refine lv_iload_n hx hb dX_needFree_4 rfl (lv_at hl 1 rfl) ?_
  obtain ⟨hi1, hw⟩ := hw
  refine va_iald (f := (xSt S)) hx hb hK hP 4 0 (XWc_4 cI cL cZ h a S) rfl hi1 dX_needFree_5 ?_
  refine lv_if_eq (tgt := 19) hx hb dX_needFree_6 (by decide) (fun c2 => ?_) (fun c2 => ?_)
  · have hw := hw.1 c2
    exact gx_v hx hb hr hlocks hK hP hD hS hw dX_needFree_19
  · have hw := hw.2 c2
    exact g_throw (own := RX9) (cls := "java/lang/IllegalStateException") (text := "the piece is not live, or held") hx hb hl9 hown (hto (.classLink RX9 110 "java/lang/IllegalStateException") (by decide +kernel)) (hto (.initialized "java/lang/IllegalStateException") (by decide +kernel)) (hG.2.2.1 (RX9, 173, "the piece is not live, or held") (by decide +kernel)) (g_at_ISE hts hG) gF_ISE gN_ gO_ISE_110 hG hK hP hD hS (hl.1.trans hml.symm) dX_needFree_9 dX_needFree_12 dX_needFree_13 dX_needFree_15 dX_needFree_18 hEx (Nat.le_of_ble_eq_true rfl) (Nat.le_of_ble_eq_true rfl) (Nat.le_of_ble_eq_true rfl) (Nat.le_of_ble_eq_true rfl) hlocks hw (Nat.le_of_ble_eq_true rfl) (Nat.le_of_ble_eq_true rfl)
def wp_X_needWithin (post : XSt → Prop) (xp : String → XSt → Prop) (p0 : Int32) (p1 : Int32) (p2 : Int32) (S : XSt) : Prop := ((p0 < p1 → (xp "java/lang/IllegalArgumentException" S)) ∧ (¬ p0 < p1 → ((p0 ≤ p2 → (post S)) ∧ (¬ p0 ≤ p2 → (xp "java/lang/IllegalArgumentException" S)))))
set_option maxHeartbeats 4000000 in
set_option maxRecDepth 100000 in
theorem c_X_needWithin (l : Launch) (hl9 : l.stackTraces = false) (D : va_G) (cI cL cZ : ClassId) (h : Nat) (a : Nat → Nat) (post : XSt → Prop) (xp : String → XSt → Prop) (p0 : Int32) (p1 : Int32) (p2 : Int32) (S : XSt) (hw : wp_X_needWithin post xp p0 p1 p2 S) : gXv l yX_needWithin wsX_needWithin ({ frames := 6, cells := 1, slots := 6, locals := 82 }) D [(cI, .int), (cL, .long), (cZ, .boolean)] [.int p0, .int p1, .int p2] (XW cI cL cZ h a S) (XW cI cL cZ h a) post xp := by
  refine g_ofXv (cc := cX_needWithin) (maxL := 3) (ret := none) (own := RX9) (by decide) rfl rfl (Nat.le_of_ble_eq_true rfl) ?_
  intro p e s m below meth c A H locs ls C hr hlocks hEx hK hG hA hP hD hS hl
  obtain ⟨hx, hb, hml, hown, hts⟩ := id C
  have hts := fun w (h9 : w ∈ gW) => hts w (List.mem_cons_of_mem _ h9)
  have hto := fun w (h9 : w ∈ gWo) => hts w (gWo_in w h9)
  have hl : lv_has ls 3 [(0, .int p0), (1, .int p1), (2, .int p2)] := hl
  dsimp only [wp_X_needWithin] at hw
  refine lv_iload_n hx hb dX_needWithin_0 rfl (lv_at hl 0 rfl) ?_
  refine lv_iload_n hx hb dX_needWithin_1 rfl (lv_at hl 1 rfl) ?_
  refine lv_icmp_lt (tgt := 10) hx hb dX_needWithin_2 (by decide) (fun c1 => ?_) (fun c1 => ?_)
  · have hw := hw.1 c1
    exact g_throw (own := RX9) (cls := "java/lang/IllegalArgumentException") (text := "a number out of its range") hx hb hl9 hown (hto (.classLink RX9 175 "java/lang/IllegalArgumentException") (by decide +kernel)) (hto (.initialized "java/lang/IllegalArgumentException") (by decide +kernel)) (hG.2.2.1 (RX9, 177, "a number out of its range") (by decide +kernel)) (g_at_IAE hts hG) gF_IAE gN_ gO_IAE_175 hG hK hP hD hS (hl.1.trans hml.symm) dX_needWithin_10 dX_needWithin_13 dX_needWithin_14 dX_needWithin_16 dX_needWithin_19 hEx (Nat.le_of_ble_eq_true rfl) (Nat.le_of_ble_eq_true rfl) (Nat.le_of_ble_eq_true rfl) (Nat.le_of_ble_eq_true rfl) hlocks hw (Nat.le_of_ble_eq_true rfl) (Nat.le_of_ble_eq_true rfl)
  · have hw := hw.2 c1
    refine lv_iload_n hx hb dX_needWithin_5 rfl (lv_at hl 0 rfl) ?_
    refine lv_iload_n hx hb dX_needWithin_6 rfl (lv_at hl 2 rfl) ?_
    refine lv_icmp_le (tgt := 20) hx hb dX_needWithin_7 (by decide) (fun c2 => ?_) (fun c2 => ?_)
    · have hw := hw.1 c2
      exact gx_v hx hb hr hlocks hK hP hD hS hw dX_needWithin_20
    · have hw := hw.2 c2
      exact g_throw (own := RX9) (cls := "java/lang/IllegalArgumentException") (text := "a number out of its range") hx hb hl9 hown (hto (.classLink RX9 175 "java/lang/IllegalArgumentException") (by decide +kernel)) (hto (.initialized "java/lang/IllegalArgumentException") (by decide +kernel)) (hG.2.2.1 (RX9, 177, "a number out of its range") (by decide +kernel)) (g_at_IAE hts hG) gF_IAE gN_ gO_IAE_175 hG hK hP hD hS (hl.1.trans hml.symm) dX_needWithin_10 dX_needWithin_13 dX_needWithin_14 dX_needWithin_16 dX_needWithin_19 hEx (Nat.le_of_ble_eq_true rfl) (Nat.le_of_ble_eq_true rfl) (Nat.le_of_ble_eq_true rfl) (Nat.le_of_ble_eq_true rfl) hlocks hw (Nat.le_of_ble_eq_true rfl) (Nat.le_of_ble_eq_true rfl)
def wp_X_needRoom (post : XSt → Prop) (xp : String → XSt → Prop) (p0 : Int32) (S : XSt) : Prop := ((((xpc S) + p0) ≤ 40 → (post S)) ∧ (¬ ((xpc S) + p0) ≤ 40 → (xp "java/lang/UnsupportedOperationException" S)))
set_option maxHeartbeats 4000000 in
set_option maxRecDepth 100000 in
theorem c_X_needRoom (l : Launch) (hl9 : l.stackTraces = false) (D : va_G) (cI cL cZ : ClassId) (h : Nat) (a : Nat → Nat) (post : XSt → Prop) (xp : String → XSt → Prop) (p0 : Int32) (S : XSt) (hw : wp_X_needRoom post xp p0 S) : gXv l yX_needRoom wsX_needRoom ({ frames := 6, cells := 1, slots := 6, locals := 82 }) D [(cI, .int), (cL, .long), (cZ, .boolean)] [.ref h, .int p0] (XW cI cL cZ h a S) (XW cI cL cZ h a) post xp := by
  refine g_ofXv (cc := cX_needRoom) (maxL := 2) (ret := none) (own := RX9) (by decide) rfl rfl (Nat.le_of_ble_eq_true rfl) ?_
  intro p e s m below meth c A H locs ls C hr hlocks hEx hK hG hA hP hD hS hl
  obtain ⟨hx, hb, hml, hown, hts⟩ := id C
  have hts := fun w (h9 : w ∈ gW) => hts w (List.mem_cons_of_mem _ h9)
  have hto := fun w (h9 : w ∈ gWo) => hts w (gWo_in w h9)
  have hl : lv_has ls 2 [(0, .ref h), (1, .int p0)] := hl
  dsimp only [wp_X_needRoom] at hw
  refine lv_aload_n hx hb dX_needRoom_0 rfl (lv_at hl 0 rfl) ?_
  refine va_get (ci := 1) (v := .int (xpc S)) (C := RX9) (T := TX9) (N := 20) hx hb hts iX9 hown hK hP 0 (XWc_0 cI cL cZ h a S) rfl 10 (by decide) (hto (.fieldLink RX9 157 "PieceTrace" "pieceCount" "I") (by decide +kernel)) (fun _ h9 => h9) rfl dX_needRoom_1 ?_
  refine lv_iload_n hx hb dX_needRoom_4 rfl (lv_at hl 1 rfl) ?_
  refine lv_iadd hx hb dX_needRoom_5 ?_
  refine lv_bipush (v := 40) hx hb dX_needRoom_6 (by decide) ?_
  refine lv_icmp_le (tgt := 21) hx hb dX_needRoom_8 (by decide) (fun c1 => ?_) (fun c1 => ?_)
  · have hw := hw.1 c1
    exact gx_v hx hb hr hlocks hK hP hD hS hw dX_needRoom_21
  · have hw := hw.2 c1
    exact g_throw (own := RX9) (cls := "java/lang/UnsupportedOperationException") (text := "there is no room for a piece") hx hb hl9 hown (hto (.classLink RX9 95 "java/lang/UnsupportedOperationException") (by decide +kernel)) (hto (.initialized "java/lang/UnsupportedOperationException") (by decide +kernel)) (hG.2.2.1 (RX9, 180, "there is no room for a piece") (by decide +kernel)) (g_at_UOE hts hG) gF_UOE gN_ gO_UOE_95 hG hK hP hD hS (hl.1.trans hml.symm) dX_needRoom_11 dX_needRoom_14 dX_needRoom_15 dX_needRoom_17 dX_needRoom_20 hEx (Nat.le_of_ble_eq_true rfl) (Nat.le_of_ble_eq_true rfl) (Nat.le_of_ble_eq_true rfl) (Nat.le_of_ble_eq_true rfl) hlocks hw (Nat.le_of_ble_eq_true rfl) (Nat.le_of_ble_eq_true rfl)
def wp_X_addPiece (post : Int32 → XSt → Prop) (p0 : Int32) (p1 : Int32) (p2 : Int32) (p3 : Int32) (S : XSt) : Prop := (∀ v5_1 : Int32, v5_1 = (xpc S) → (vp_in v5_1 40 ∧ (∀ S3 : XSt, S3 = xuKi S v5_1 p0 → (vp_in v5_1 40 ∧ (∀ S5 : XSt, S5 = xuWe S3 v5_1 p2 → (vp_in v5_1 40 ∧ (∀ S7 : XSt, S7 = xuLe S5 v5_1 p3 → (vp_in v5_1 40 ∧ (∀ S9 : XSt, S9 = xuSt S7 v5_1 0 → (vp_in v5_1 40 ∧ (∀ S11 : XSt, S11 = xuSo S9 v5_1 p1 → (vp_in v5_1 40 ∧ (∀ S13 : XSt, S13 = xuSe S11 v5_1 (-1) → ((p1 = (-1) → (vp_in v5_1 40 ∧ (∀ S20 : XSt, S20 = xuRo S13 v5_1 0 → (∀ S21 : XSt, S21 = xspc S20 ((xpc S20) + 1) → (post v5_1 S21))))) ∧ (¬ p1 = (-1) → (vp_in p1 40 ∧ (vp_in v5_1 40 ∧ (∀ S17 : XSt, S17 = xuRo S13 v5_1 (xRo S13 p1.toNatClampNeg) → (∀ S18 : XSt, S18 = xspc S17 ((xpc S17) + 1) → (post v5_1 S18))))))))))))))))))))
set_option maxHeartbeats 4000000 in
set_option maxRecDepth 100000 in
theorem c_X_addPiece (l : Launch) (hl9 : l.stackTraces = false) (D : va_G) (cI cL cZ : ClassId) (h : Nat) (a : Nat → Nat) (post : Int32 → XSt → Prop) (p0 : Int32) (p1 : Int32) (p2 : Int32) (p3 : Int32) (S : XSt) (hw : wp_X_addPiece post p0 p1 p2 p3 S) : gMi l yX_addPiece wsX_addPiece ({ frames := 0, cells := 0, slots := 0, locals := 0 }) D [(cI, .int), (cL, .long), (cZ, .boolean)] [.ref h, .int p0, .int p1, .int p2, .int p3] (XW cI cL cZ h a S) (XW cI cL cZ h a) post := by
  refine g_ofMi (cc := cX_addPiece) (maxL := 6) (ret := (some .int)) (own := RX9) (by decide) rfl rfl (Nat.le_of_ble_eq_true rfl) ?_
  intro p e s m below meth c A H locs ls C hr hlocks hK hG hA hP hD hS hl
  obtain ⟨hx, hb, hml, hown, hts⟩ := id C
  have hts := fun w (h9 : w ∈ gW) => hts w (List.mem_cons_of_mem _ h9)
  have hto := fun w (h9 : w ∈ gWo) => hts w (gWo_in w h9)
  have hl : lv_has ls 6 [(0, .ref h), (1, .int p0), (2, .int p1), (3, .int p2), (4, .int p3)] := hl
  dsimp only [wp_X_addPiece] at hw
  refine lv_aload_n hx hb dX_addPiece_0 rfl (lv_at hl 0 rfl) ?_
  refine va_get (ci := 1) (v := .int (xpc S)) (C := RX9) (T := TX9) (N := 20) hx hb hts iX9 hown hK hP 0 (XWc_0 cI cL cZ h a S) rfl 10 (by decide) (hto (.fieldLink RX9 157 "PieceTrace" "pieceCount" "I") (by decide +kernel)) (fun _ h9 => h9) rfl dX_addPiece_1 ?_
  refine lv_topi (fun v5_1 ev5_1 => ?_)
  have hw := hw v5_1 ev5_1
  refine lv_istore (lv' := [(5, .int v5_1), (0, .ref h), (1, .int p0), (2, .int p1), (3, .int p2), (4, .int p3)]) hx hb dX_addPiece_4 hl (by decide) rfl (fun ls hl => ?_)
  refine lv_aload_n hx hb dX_addPiece_6 rfl (lv_at hl 1 rfl) ?_
  refine va_get (ci := 1) (v := .ref (a 0)) (C := RX9) (T := TX9) (N := 20) hx hb hts iX9 hown hK hP 0 (XWc_0 cI cL cZ h a S) rfl 0 (by decide) (hto (.fieldLink RX9 9 "PieceTrace" "kinds" "[I") (by decide +kernel)) (fun _ h9 => h9) rfl dX_addPiece_7 ?_
  refine lv_iload hx hb dX_addPiece_10 (lv_at hl 0 rfl) ?_
  refine lv_iload_n hx hb dX_addPiece_12 rfl (lv_at hl 2 rfl) ?_
  obtain ⟨hi2, hw⟩ := hw
  refine g_iast (wf := XW cI cL cZ h a) (S' := xuKi S v5_1 p0) hx hb hK hP hD hS 1 0 (XWc_1 cI cL cZ h a S) rfl rfl hi2 dX_addPiece_13 (fun S3 eS3 H locs hP hD hS => ?_)
  have hw := hw S3 eS3
  refine lv_aload_n hx hb dX_addPiece_14 rfl (lv_at hl 1 rfl) ?_
  refine va_get (ci := 1) (v := .ref (a 1)) (C := RX9) (T := TX9) (N := 20) hx hb hts iX9 hown hK hP 0 (XWc_0 cI cL cZ h a S3) rfl 1 (by decide) (hto (.fieldLink RX9 13 "PieceTrace" "weights" "[I") (by decide +kernel)) (fun _ h9 => h9) rfl dX_addPiece_15 ?_
  refine lv_iload hx hb dX_addPiece_18 (lv_at hl 0 rfl) ?_
  refine lv_iload_n hx hb dX_addPiece_20 rfl (lv_at hl 4 rfl) ?_
  obtain ⟨hi4, hw⟩ := hw
  refine g_iast (wf := XW cI cL cZ h a) (S' := xuWe S3 v5_1 p2) hx hb hK hP hD hS 2 0 (XWc_2 cI cL cZ h a S3) rfl rfl hi4 dX_addPiece_21 (fun S5 eS5 H locs hP hD hS => ?_)
  have hw := hw S5 eS5
  refine lv_aload_n hx hb dX_addPiece_22 rfl (lv_at hl 1 rfl) ?_
  refine va_get (ci := 1) (v := .ref (a 2)) (C := RX9) (T := TX9) (N := 20) hx hb hts iX9 hown hK hP 0 (XWc_0 cI cL cZ h a S5) rfl 2 (by decide) (hto (.fieldLink RX9 16 "PieceTrace" "lengths" "[I") (by decide +kernel)) (fun _ h9 => h9) rfl dX_addPiece_23 ?_
  refine lv_iload hx hb dX_addPiece_26 (lv_at hl 0 rfl) ?_
  refine lv_iload hx hb dX_addPiece_28 (lv_at hl 5 rfl) ?_
  obtain ⟨hi6, hw⟩ := hw
  refine g_iast (wf := XW cI cL cZ h a) (S' := xuLe S5 v5_1 p3) hx hb hK hP hD hS 3 0 (XWc_3 cI cL cZ h a S5) rfl rfl hi6 dX_addPiece_30 (fun S7 eS7 H locs hP hD hS => ?_)
  have hw := hw S7 eS7
  refine lv_aload_n hx hb dX_addPiece_31 rfl (lv_at hl 1 rfl) ?_
  refine va_get (ci := 1) (v := .ref (a 3)) (C := RX9) (T := TX9) (N := 20) hx hb hts iX9 hown hK hP 0 (XWc_0 cI cL cZ h a S7) rfl 3 (by decide) (hto (.fieldLink RX9 19 "PieceTrace" "states" "[I") (by decide +kernel)) (fun _ h9 => h9) rfl dX_addPiece_32 ?_
  refine lv_iload hx hb dX_addPiece_35 (lv_at hl 0 rfl) ?_
  refine lv_iconst (v := 0) hx hb dX_addPiece_37 (by decide) ?_
  obtain ⟨hi8, hw⟩ := hw
  refine g_iast (wf := XW cI cL cZ h a) (S' := xuSt S7 v5_1 0) hx hb hK hP hD hS 4 0 (XWc_4 cI cL cZ h a S7) rfl rfl hi8 dX_addPiece_38 (fun S9 eS9 H locs hP hD hS => ?_)
  have hw := hw S9 eS9
  refine lv_aload_n hx hb dX_addPiece_39 rfl (lv_at hl 1 rfl) ?_
  refine va_get (ci := 1) (v := .ref (a 4)) (C := RX9) (T := TX9) (N := 20) hx hb hts iX9 hown hK hP 0 (XWc_0 cI cL cZ h a S9) rfl 4 (by decide) (hto (.fieldLink RX9 22 "PieceTrace" "sources" "[I") (by decide +kernel)) (fun _ h9 => h9) rfl dX_addPiece_40 ?_
  refine lv_iload hx hb dX_addPiece_43 (lv_at hl 0 rfl) ?_
  refine lv_iload_n hx hb dX_addPiece_45 rfl (lv_at hl 3 rfl) ?_
  obtain ⟨hi10, hw⟩ := hw
  refine g_iast (wf := XW cI cL cZ h a) (S' := xuSo S9 v5_1 p1) hx hb hK hP hD hS 5 0 (XWc_5 cI cL cZ h a S9) rfl rfl hi10 dX_addPiece_46 (fun S11 eS11 H locs hP hD hS => ?_)
  have hw := hw S11 eS11
  refine lv_aload_n hx hb dX_addPiece_47 rfl (lv_at hl 1 rfl) ?_
  refine va_get (ci := 1) (v := .ref (a 5)) (C := RX9) (T := TX9) (N := 20) hx hb hts iX9 hown hK hP 0 (XWc_0 cI cL cZ h a S11) rfl 5 (by decide) (hto (.fieldLink RX9 25 "PieceTrace" "seconds" "[I") (by decide +kernel)) (fun _ h9 => h9) rfl dX_addPiece_48 ?_
  refine lv_iload hx hb dX_addPiece_51 (lv_at hl 0 rfl) ?_
  refine lv_iconst (v := -1) hx hb dX_addPiece_53 (by decide) ?_
  obtain ⟨hi12, hw⟩ := hw
  refine g_iast (wf := XW cI cL cZ h a) (S' := xuSe S11 v5_1 (-1)) hx hb hK hP hD hS 6 0 (XWc_6 cI cL cZ h a S11) rfl rfl hi12 dX_addPiece_54 (fun S13 eS13 H locs hP hD hS => ?_)
  have hw := hw S13 eS13
  refine lv_aload_n hx hb dX_addPiece_55 rfl (lv_at hl 1 rfl) ?_
  refine va_get (ci := 1) (v := .ref (a 6)) (C := RX9) (T := TX9) (N := 20) hx hb hts iX9 hown hK hP 0 (XWc_0 cI cL cZ h a S13) rfl 6 (by decide) (hto (.fieldLink RX9 28 "PieceTrace" "rollCounts" "[I") (by decide +kernel)) (fun _ h9 => h9) rfl dX_addPiece_56 ?_
  refine lv_iload hx hb dX_addPiece_59 (lv_at hl 0 rfl) ?_
  refine lv_iload_n hx hb dX_addPiece_61 rfl (lv_at hl 3 rfl) ?_
  refine lv_iconst (v := -1) hx hb dX_addPiece_62 (by decide) ?_
  refine lv_icmp_ne (tgt := 70) hx hb dX_addPiece_63 (by decide) (fun c14 => ?_) (fun c14 => ?_)
  · have hw := hw.2 c14
    refine lv_aload_n hx hb dX_addPiece_70 rfl (lv_at hl 1 rfl) ?_
    refine va_get (ci := 1) (v := .ref (a 6)) (C := RX9) (T := TX9) (N := 20) hx hb hts iX9 hown hK hP 0 (XWc_0 cI cL cZ h a S13) rfl 6 (by decide) (hto (.fieldLink RX9 28 "PieceTrace" "rollCounts" "[I") (by decide +kernel)) (fun _ h9 => h9) rfl dX_addPiece_71 ?_
    refine lv_iload_n hx hb dX_addPiece_74 rfl (lv_at hl 3 rfl) ?_
    obtain ⟨hi15, hw⟩ := hw
    refine va_iald (f := (xRo S13)) hx hb hK hP 7 0 (XWc_7 cI cL cZ h a S13) rfl hi15 dX_addPiece_75 ?_
    obtain ⟨hi16, hw⟩ := hw
    refine g_iast (wf := XW cI cL cZ h a) (S' := xuRo S13 v5_1 (xRo S13 p1.toNatClampNeg)) hx hb hK hP hD hS 7 0 (XWc_7 cI cL cZ h a S13) rfl rfl hi16 dX_addPiece_76 (fun S17 eS17 H locs hP hD hS => ?_)
    have hw := hw S17 eS17
    refine lv_aload_n hx hb dX_addPiece_77 rfl (lv_at hl 1 rfl) ?_
    refine lv_dup hx hb dX_addPiece_78 rfl ?_
    refine va_get (ci := 1) (v := .int (xpc S17)) (C := RX9) (T := TX9) (N := 20) hx hb hts iX9 hown hK hP 0 (XWc_0 cI cL cZ h a S17) rfl 10 (by decide) (hto (.fieldLink RX9 157 "PieceTrace" "pieceCount" "I") (by decide +kernel)) (fun _ h9 => h9) rfl dX_addPiece_79 ?_
    refine lv_iconst (v := 1) hx hb dX_addPiece_82 (by decide) ?_
    refine lv_iadd hx hb dX_addPiece_83 ?_
    refine g_put (wf := XW cI cL cZ h a) (S' := xspc S17 ((xpc S17) + 1)) (ci := 1) (v := .int ((xpc S17) + 1)) (ty := .int) (C := RX9) (T := TX9) (N := 20) hx hb hts iX9 tyX9 tyX9_ok nmX9 hown hK hP hD hS 0 (XWc_0 cI cL cZ h a S17) rfl 10 (by decide) (hto (.fieldLink RX9 157 "PieceTrace" "pieceCount" "I") (by decide +kernel)) (fun _ h9 => h9) rfl (by decide +kernel) rfl rfl (Nat.le_of_ble_eq_true rfl) rfl dX_addPiece_84 (fun S18 eS18 H locs hP hD hS => ?_)
    have hw := hw S18 eS18
    refine lv_iload hx hb dX_addPiece_87 (lv_at hl 0 rfl) ?_
    exact gr_i hx hb hr hlocks hK hP hD hS hw (Nat.le_of_ble_eq_true rfl) (Nat.le_of_ble_eq_true rfl) dX_addPiece_89
  · have hw := hw.1 c14
    refine lv_iconst (v := 0) hx hb dX_addPiece_66 (by decide) ?_
    refine lv_goto (tgt := 76) hx hb dX_addPiece_67 (by decide) ?_
    obtain ⟨hi19, hw⟩ := hw
    refine g_iast (wf := XW cI cL cZ h a) (S' := xuRo S13 v5_1 0) hx hb hK hP hD hS 7 0 (XWc_7 cI cL cZ h a S13) rfl rfl hi19 dX_addPiece_76 (fun S20 eS20 H locs hP hD hS => ?_)
    have hw := hw S20 eS20
    refine lv_aload_n hx hb dX_addPiece_77 rfl (lv_at hl 1 rfl) ?_
    refine lv_dup hx hb dX_addPiece_78 rfl ?_
    refine va_get (ci := 1) (v := .int (xpc S20)) (C := RX9) (T := TX9) (N := 20) hx hb hts iX9 hown hK hP 0 (XWc_0 cI cL cZ h a S20) rfl 10 (by decide) (hto (.fieldLink RX9 157 "PieceTrace" "pieceCount" "I") (by decide +kernel)) (fun _ h9 => h9) rfl dX_addPiece_79 ?_
    refine lv_iconst (v := 1) hx hb dX_addPiece_82 (by decide) ?_
    refine lv_iadd hx hb dX_addPiece_83 ?_
    refine g_put (wf := XW cI cL cZ h a) (S' := xspc S20 ((xpc S20) + 1)) (ci := 1) (v := .int ((xpc S20) + 1)) (ty := .int) (C := RX9) (T := TX9) (N := 20) hx hb hts iX9 tyX9 tyX9_ok nmX9 hown hK hP hD hS 0 (XWc_0 cI cL cZ h a S20) rfl 10 (by decide) (hto (.fieldLink RX9 157 "PieceTrace" "pieceCount" "I") (by decide +kernel)) (fun _ h9 => h9) rfl (by decide +kernel) rfl rfl (Nat.le_of_ble_eq_true rfl) rfl dX_addPiece_84 (fun S21 eS21 H locs hP hD hS => ?_)
    have hw := hw S21 eS21
    refine lv_iload hx hb dX_addPiece_87 (lv_at hl 0 rfl) ?_
    exact gr_i hx hb hr hlocks hK hP hD hS hw (Nat.le_of_ble_eq_true rfl) (Nat.le_of_ble_eq_true rfl) dX_addPiece_89
def wpL_X_liveWeight_4 (post : Int64 → XSt → Prop) : Nat → XSt → Int64 → Int32 → Prop
  | 0 => fun _ _ _ => False
  | n + 1 => fun S u1 u3 => (((xpc S) ≤ u3 → (post u1 S)) ∧ (¬ (xpc S) ≤ u3 → (wp_X_isLive (fun r3 S2 => ((r3 = 0 → (∀ v3_5 : Int32, v3_5 = u3 + 1 → (wpL_X_liveWeight_4 post  n S2 u1 v3_5))) ∧ (¬ r3 = 0 → (vp_in u3 40 ∧ (∀ v1_7 : Int64, v1_7 = (u1 + (xWe S2 u3.toNatClampNeg).toInt64) → (∀ v3_8 : Int32, v3_8 = u3 + 1 → (wpL_X_liveWeight_4 post  n S2 v1_7 v3_8))))))) u3 S)))
def wp_X_liveWeight (post : Int64 → XSt → Prop) (S : XSt) : Prop := (∃ n : Nat, wpL_X_liveWeight_4 post  n S 0 0)
set_option maxHeartbeats 4000000 in
set_option maxRecDepth 100000 in
theorem c_X_liveWeight (l : Launch) (hl9 : l.stackTraces = false) (D : va_G) (cI cL cZ : ClassId) (h : Nat) (a : Nat → Nat) (post : Int64 → XSt → Prop) (S : XSt) (hw : wp_X_liveWeight post  S) : gMl l yX_liveWeight wsX_liveWeight ({ frames := 1, cells := 0, slots := 0, locals := 21 }) D [(cI, .int), (cL, .long), (cZ, .boolean)] [.ref h] (XW cI cL cZ h a S) (XW cI cL cZ h a) post := by
  refine g_ofMl (cc := cX_liveWeight) (maxL := 4) (ret := (some .long)) (own := RX9) (by decide) rfl rfl (Nat.le_of_ble_eq_true rfl) ?_
  intro p e s m below meth c A H locs ls C hr hlocks hK hG hA hP hD hS hl
  obtain ⟨hx, hb, hml, hown, hts⟩ := id C
  have hts := fun w (h9 : w ∈ gW) => hts w (List.mem_cons_of_mem _ h9)
  have hto := fun w (h9 : w ∈ gWo) => hts w (gWo_in w h9)
  have hl : lv_has ls 4 [(0, .ref h)] := hl
  dsimp only [wp_X_liveWeight] at hw
  refine lv_lconst (v := 0) hx hb dX_liveWeight_0 (by decide) ?_
  refine lv_lstore_n (lv' := [(1, .long 0), (0, .ref h)]) hx hb dX_liveWeight_1 rfl hl (by decide) rfl (fun ls hl => ?_)
  refine lv_iconst (v := 0) hx hb dX_liveWeight_2 (by decide) ?_
  refine lv_istore_n (lv' := [(3, .int 0), (1, .long 0), (0, .ref h)]) hx hb dX_liveWeight_3 rfl hl (by decide) rfl (fun ls hl => ?_)
  obtain ⟨n, hw⟩ := hw
  have hL : ∀ (n : Nat) (S : XSt) (u1 : Int64) (u3 : Int32) (H : Heap) (locs : List Loc) (ls : Array Slot), wpL_X_liveWeight_4 post  n S u1 u3 → va_P D vwCl (XW cI cL cZ h a S) H → va_D A (XW cI cL cZ h a S) → va_S A s.heap H locs → lv_has ls 4 [(1, .long u1), (3, .int u3), (0, .ref h)] → W p l e (headSpec wsX_liveWeight { frames := 1, cells := 0, slots := 0, locals := 21 }).room s m ([.ref h] : List Value).toArray below meth c H locs 0 0 (MQ below (gQl D [(cI, .int), (cL, .long), (cZ, .boolean)] (XW cI cL cZ h a) post A) ([.ref h] : List Value).toArray s 0 0 A) (F0 m 4 ls []) := by
    intro n
    induction n with
    | zero => intro S u1 u3 H locs ls hw; exact hw.elim
    | succ n ih =>
      intro S u1 u3 H locs ls hw hP hD hS hl
      dsimp only [wpL_X_liveWeight_4] at hw
      refine lv_iload_n hx hb dX_liveWeight_4 rfl (lv_at hl 1 rfl) ?_
      refine lv_aload_n hx hb dX_liveWeight_5 rfl (lv_at hl 2 rfl) ?_
      refine va_get (ci := 1) (v := .int (xpc S)) (C := RX9) (T := TX9) (N := 20) hx hb hts iX9 hown hK hP 0 (XWc_0 cI cL cZ h a S) rfl 10 (by decide) (hto (.fieldLink RX9 157 "PieceTrace" "pieceCount" "I") (by decide +kernel)) (fun _ h9 => h9) rfl dX_liveWeight_6 ?_
      refine lv_icmp_ge (tgt := 36) hx hb dX_liveWeight_9 (by decide) (fun c1 => ?_) (fun c1 => ?_)
      · have hw := hw.1 c1
        refine lv_lload_n hx hb dX_liveWeight_36 rfl (lv_at hl 0 rfl) ?_
        exact gr_l hx hb hr hlocks hK hP hD hS hw (Nat.le_of_ble_eq_true rfl) (Nat.le_of_ble_eq_true rfl) dX_liveWeight_37
      · have hw := hw.2 c1
        refine lv_aload_n hx hb dX_liveWeight_12 rfl (lv_at hl 2 rfl) ?_
        refine lv_iload_n hx hb dX_liveWeight_13 rfl (lv_at hl 1 rfl) ?_
        refine gk_z (wr := []) (wc := XW cI cL cZ h a S) (wfc := XW cI cL cZ h a) hP hD hS hA (va_runV (As := [.int u3]) (rest := []) C (c_X_isLive l hl9 D cI cL cZ h a _ u3 S hw H.size) (cwV 1 hts (gGV (by decide +kernel) kX_isLive) rfl rfl rfl (by decide +kernel) ⟨Nat.le_of_ble_eq_true rfl, Nat.le_of_ble_eq_true rfl⟩) (g_preV (wr := []) (wc := XW cI cL cZ h a S) (ci := 1) hK hG hA hP hD hS rfl (XWc_0 cI cL cZ h a S) rfl) rfl rfl hl.1 rfl (lv_room (Nat.le_of_ble_eq_true rfl)) dX_liveWeight_14 ⟨Nat.le_of_ble_eq_true rfl, Nat.le_of_ble_eq_true rfl⟩) (fun r3 S2 hbr3 H locs hw hP hD hS => ?_)
        have hP : va_P D vwCl (XW cI cL cZ h a S2) H := hP
        have hD : va_D A (XW cI cL cZ h a S2) := hD
        refine lv_if_eq (tgt := 30) hx hb dX_liveWeight_17 (by decide) (fun c4 => ?_) (fun c4 => ?_)
        · have hw := hw.1 c4
          obtain ⟨v3_5, ev3_5⟩ : ∃ y : Int32, y = u3 + 1 := ⟨_, rfl⟩
          have hw := hw v3_5 ev3_5
          refine lv_iinc (v := v3_5) (lv' := [(3, .int v3_5), (1, .long u1), (0, .ref h)]) hx hb dX_liveWeight_30 hl (k := 1) rfl (by rw [ev3_5]; rfl) (by decide) rfl (fun ls hl => ?_)
          refine lv_goto (tgt := 4) hx hb dX_liveWeight_33 (by decide) ?_
          refine W.widen (k := 0) (n := 0) (Nat.le_of_ble_eq_true rfl) (Nat.le_of_ble_eq_true rfl) ?_
          exact ih S2 u1 v3_5 H locs ls hw hP hD hS (lv_sub hl [1, 0, 2] rfl)
        · have hw := hw.2 c4
          refine lv_lload_n hx hb dX_liveWeight_20 rfl (lv_at hl 0 rfl) ?_
          refine lv_aload_n hx hb dX_liveWeight_21 rfl (lv_at hl 2 rfl) ?_
          refine va_get (ci := 1) (v := .ref (a 1)) (C := RX9) (T := TX9) (N := 20) hx hb hts iX9 hown hK hP 0 (XWc_0 cI cL cZ h a S2) rfl 1 (by decide) (hto (.fieldLink RX9 13 "PieceTrace" "weights" "[I") (by decide +kernel)) (fun _ h9 => h9) rfl dX_liveWeight_22 ?_
          refine lv_iload_n hx hb dX_liveWeight_25 rfl (lv_at hl 1 rfl) ?_
          obtain ⟨hi6, hw⟩ := hw
          refine va_iald (f := (xWe S2)) hx hb hK hP 2 0 (XWc_2 cI cL cZ h a S2) rfl hi6 dX_liveWeight_26 ?_
          refine lv_i2l (v := (xWe S2 u3.toNatClampNeg).toInt64) hx hb dX_liveWeight_27 rfl ?_
          refine lv_ladd hx hb dX_liveWeight_28 ?_
          refine lv_topl (fun v1_7 ev1_7 => ?_)
          have hw := hw v1_7 ev1_7
          refine lv_lstore_n (lv' := [(1, .long v1_7), (3, .int u3), (0, .ref h)]) hx hb dX_liveWeight_29 rfl hl (by decide) rfl (fun ls hl => ?_)
          obtain ⟨v3_8, ev3_8⟩ : ∃ y : Int32, y = u3 + 1 := ⟨_, rfl⟩
          have hw := hw v3_8 ev3_8
          refine lv_iinc (v := v3_8) (lv' := [(3, .int v3_8), (1, .long v1_7), (0, .ref h)]) hx hb dX_liveWeight_30 hl (k := 1) rfl (by rw [ev3_8]; rfl) (by decide) rfl (fun ls hl => ?_)
          refine lv_goto (tgt := 4) hx hb dX_liveWeight_33 (by decide) ?_
          refine W.widen (k := 0) (n := 0) (Nat.le_of_ble_eq_true rfl) (Nat.le_of_ble_eq_true rfl) ?_
          exact ih S2 v1_7 v3_8 H locs ls hw hP hD hS (lv_sub hl [1, 0, 2] rfl)
  refine W.widen (k := 0) (n := 0) (Nat.le_of_ble_eq_true rfl) (Nat.le_of_ble_eq_true rfl) ?_
  exact hL n S 0 0 H locs ls hw hP hD hS (lv_sub hl [1, 0, 2] rfl)
def wp_X_stepBack (post : Int32 → XSt → Prop) (p0 : Int32) (S : XSt) : Prop := (vp_in p0 40 ∧ (∀ k2 : Int32, k2 = (xKi S p0.toNatClampNeg) → ((k2 = 2 → (vp_in p0 40 ∧ (wp_P_move (fun  S5 => (vp_in p0 40 ∧ (post (xSo S5 p0.toNatClampNeg) S5))) ((xSm S p0.toNatClampNeg).toInt64) S))) ∧ (¬ k2 = 2 → ((k2 = 3 → (vp_in p0 40 ∧ (wp_P_isBelow (fun r10 S9 => ((r10 = 0 → (vp_in p0 40 ∧ (wp_P_move (fun  S13 => (vp_in p0 40 ∧ (post (xSe S13 p0.toNatClampNeg) S13))) ((-(xSm S9 p0.toNatClampNeg)).toInt64) S9))) ∧ (¬ r10 = 0 → (vp_in p0 40 ∧ (post (xSo S9 p0.toNatClampNeg) S9))))) ((xSm S p0.toNatClampNeg).toInt64) S))) ∧ (¬ k2 = 3 → ((k2 = 4 → (vp_in p0 40 ∧ (vp_in p0 40 ∧ (wp_P_stretch (fun  S19 => (vp_in p0 40 ∧ (post (xSo S19 p0.toNatClampNeg) S19))) ((xRL S p0.toNatClampNeg).toInt64) ((xRU S p0.toNatClampNeg).toInt64) S)))) ∧ (¬ k2 = 4 → (vp_in p0 40 ∧ (post (xSo S p0.toNatClampNeg) S))))))))))
set_option maxHeartbeats 4000000 in
set_option maxRecDepth 100000 in
theorem c_X_stepBack (l : Launch) (hl9 : l.stackTraces = false) (D : va_G) (cI cL cZ : ClassId) (h : Nat) (a : Nat → Nat) (post : Int32 → XSt → Prop) (p0 : Int32) (S : XSt) (hw : wp_X_stepBack post p0 S) : gMi l yX_stepBack wsX_stepBack ({ frames := 2, cells := 0, slots := 0, locals := 56 }) D [(cI, .int), (cL, .long), (cZ, .boolean)] [.ref h, .int p0] (XW cI cL cZ h a S) (XW cI cL cZ h a) post := by
  refine g_ofMi (cc := cX_stepBack) (maxL := 2) (ret := (some .int)) (own := RX9) (by decide) rfl rfl (Nat.le_of_ble_eq_true rfl) ?_
  intro p e s m below meth c A H locs ls C hr hlocks hK hG hA hP hD hS hl
  obtain ⟨hx, hb, hml, hown, hts⟩ := id C
  have hts := fun w (h9 : w ∈ gW) => hts w (List.mem_cons_of_mem _ h9)
  have hto := fun w (h9 : w ∈ gWo) => hts w (gWo_in w h9)
  have hl : lv_has ls 2 [(0, .ref h), (1, .int p0)] := hl
  dsimp only [wp_X_stepBack] at hw
  refine lv_aload_n hx hb dX_stepBack_0 rfl (lv_at hl 0 rfl) ?_
  refine va_get (ci := 1) (v := .ref (a 0)) (C := RX9) (T := TX9) (N := 20) hx hb hts iX9 hown hK hP 0 (XWc_0 cI cL cZ h a S) rfl 0 (by decide) (hto (.fieldLink RX9 9 "PieceTrace" "kinds" "[I") (by decide +kernel)) (fun _ h9 => h9) rfl dX_stepBack_1 ?_
  refine lv_iload_n hx hb dX_stepBack_4 rfl (lv_at hl 1 rfl) ?_
  obtain ⟨hi1, hw⟩ := hw
  refine va_iald (f := (xKi S)) hx hb hK hP 1 0 (XWc_1 cI cL cZ h a S) rfl hi1 dX_stepBack_5 ?_
  refine lv_topi (fun k2 ek2 => ?_)
  have hw := hw k2 ek2
  by_cases c3 : k2 = 2
  · have hw := hw.1 c3
    refine lv_tableIn (off := 26) (tgt := 32) hx hb dX_stepBack_6 (by rw [c3]; decide) (by rw [c3]; decide) (by rw [c3]; rfl) (by decide) ?_
    refine lv_aload_n hx hb dX_stepBack_32 rfl (lv_at hl 0 rfl) ?_
    refine va_get (ci := 1) (v := .ref (a 15)) (C := RX9) (T := TX9) (N := 20) hx hb hts iX9 hown hK hP 0 (XWc_0 cI cL cZ h a S) rfl 17 (by decide) (hto (.fieldLink RX9 53 "PieceTrace" "spot" "LPieceTrace$Place;") (by decide +kernel)) (fun _ h9 => h9) rfl dX_stepBack_33 ?_
    refine lv_aload_n hx hb dX_stepBack_36 rfl (lv_at hl 0 rfl) ?_
    refine va_get (ci := 1) (v := .ref (a 7)) (C := RX9) (T := TX9) (N := 20) hx hb hts iX9 hown hK hP 0 (XWc_0 cI cL cZ h a S) rfl 7 (by decide) (hto (.fieldLink RX9 31 "PieceTrace" "seams" "[I") (by decide +kernel)) (fun _ h9 => h9) rfl dX_stepBack_37 ?_
    refine lv_iload_n hx hb dX_stepBack_40 rfl (lv_at hl 1 rfl) ?_
    obtain ⟨hi4, hw⟩ := hw
    refine va_iald (f := (xSm S)) hx hb hK hP 8 0 (XWc_8 cI cL cZ h a S) rfl hi4 dX_stepBack_41 ?_
    refine lv_i2l (v := (xSm S p0.toNatClampNeg).toInt64) hx hb dX_stepBack_42 rfl ?_
    refine gk_v (wr := []) (wc := XW cI cL cZ h a S) (wfc := XW cI cL cZ h a) hP hD hS hA (va_runVN (As := [.long ((xSm S p0.toNatClampNeg).toInt64)]) (rest := []) C (c_P_move l hl9 D cI cL cZ h a _ ((xSm S p0.toNatClampNeg).toInt64) S hw H.size) ⟨va_cnB 1 hts (gGI kP_move) rfl rfl rfl (hG.1 (.methodLinkNest RX9 190 yP_move "PieceTrace") (by decide +kernel)) (hto (.initialized RP9) (by decide +kernel)) (by decide +kernel) ⟨Nat.le_of_ble_eq_true rfl, Nat.le_of_ble_eq_true rfl⟩, (hto (.instanceMethod yP_move) (by decide +kernel)), (hto (.selects RP9 yP_move yP_move) (by decide +kernel))⟩ (g_preV (wr := []) (wc := XW cI cL cZ h a S) (ci := 0) hK hG hA hP hD hS rfl (XWc_16 cI cL cZ h a S) rfl) rfl rfl hl.1 rfl (lv_room (Nat.le_of_ble_eq_true rfl)) dX_stepBack_43 ⟨Nat.le_of_ble_eq_true rfl, Nat.le_of_ble_eq_true rfl⟩) (fun  S5 H locs hw hP hD hS => ?_)
    have hP : va_P D vwCl (XW cI cL cZ h a S5) H := hP
    have hD : va_D A (XW cI cL cZ h a S5) := hD
    refine lv_aload_n hx hb dX_stepBack_46 rfl (lv_at hl 0 rfl) ?_
    refine va_get (ci := 1) (v := .ref (a 4)) (C := RX9) (T := TX9) (N := 20) hx hb hts iX9 hown hK hP 0 (XWc_0 cI cL cZ h a S5) rfl 4 (by decide) (hto (.fieldLink RX9 22 "PieceTrace" "sources" "[I") (by decide +kernel)) (fun _ h9 => h9) rfl dX_stepBack_47 ?_
    refine lv_iload_n hx hb dX_stepBack_50 rfl (lv_at hl 1 rfl) ?_
    obtain ⟨hi6, hw⟩ := hw
    refine va_iald (f := (xSo S5)) hx hb hK hP 5 0 (XWc_5 cI cL cZ h a S5) rfl hi6 dX_stepBack_51 ?_
    exact gr_i hx hb hr hlocks hK hP hD hS hw (Nat.le_of_ble_eq_true rfl) (Nat.le_of_ble_eq_true rfl) dX_stepBack_52
  have hw := hw.2 c3
  by_cases c7 : k2 = 3
  · have hw := hw.1 c7
    refine lv_tableIn (off := 47) (tgt := 53) hx hb dX_stepBack_6 (by rw [c7]; decide) (by rw [c7]; decide) (by rw [c7]; rfl) (by decide) ?_
    refine lv_aload_n hx hb dX_stepBack_53 rfl (lv_at hl 0 rfl) ?_
    refine va_get (ci := 1) (v := .ref (a 15)) (C := RX9) (T := TX9) (N := 20) hx hb hts iX9 hown hK hP 0 (XWc_0 cI cL cZ h a S) rfl 17 (by decide) (hto (.fieldLink RX9 53 "PieceTrace" "spot" "LPieceTrace$Place;") (by decide +kernel)) (fun _ h9 => h9) rfl dX_stepBack_54 ?_
    refine lv_aload_n hx hb dX_stepBack_57 rfl (lv_at hl 0 rfl) ?_
    refine va_get (ci := 1) (v := .ref (a 7)) (C := RX9) (T := TX9) (N := 20) hx hb hts iX9 hown hK hP 0 (XWc_0 cI cL cZ h a S) rfl 7 (by decide) (hto (.fieldLink RX9 31 "PieceTrace" "seams" "[I") (by decide +kernel)) (fun _ h9 => h9) rfl dX_stepBack_58 ?_
    refine lv_iload_n hx hb dX_stepBack_61 rfl (lv_at hl 1 rfl) ?_
    obtain ⟨hi8, hw⟩ := hw
    refine va_iald (f := (xSm S)) hx hb hK hP 8 0 (XWc_8 cI cL cZ h a S) rfl hi8 dX_stepBack_62 ?_
    refine lv_i2l (v := (xSm S p0.toNatClampNeg).toInt64) hx hb dX_stepBack_63 rfl ?_
    refine gk_z (wr := []) (wc := XW cI cL cZ h a S) (wfc := XW cI cL cZ h a) hP hD hS hA (va_runVN (As := [.long ((xSm S p0.toNatClampNeg).toInt64)]) (rest := []) C (c_P_isBelow l hl9 D cI cL cZ h a _ ((xSm S p0.toNatClampNeg).toInt64) S hw H.size) ⟨va_cnB 1 hts (gGI kP_isBelow) rfl rfl rfl (hG.1 (.methodLinkNest RX9 194 yP_isBelow "PieceTrace") (by decide +kernel)) (hto (.initialized RP9) (by decide +kernel)) (by decide +kernel) ⟨Nat.le_of_ble_eq_true rfl, Nat.le_of_ble_eq_true rfl⟩, (hto (.instanceMethod yP_isBelow) (by decide +kernel)), (hto (.selects RP9 yP_isBelow yP_isBelow) (by decide +kernel))⟩ (g_preV (wr := []) (wc := XW cI cL cZ h a S) (ci := 0) hK hG hA hP hD hS rfl (XWc_16 cI cL cZ h a S) rfl) rfl rfl hl.1 rfl (lv_room (Nat.le_of_ble_eq_true rfl)) dX_stepBack_64 ⟨Nat.le_of_ble_eq_true rfl, Nat.le_of_ble_eq_true rfl⟩) (fun r10 S9 hbr10 H locs hw hP hD hS => ?_)
    have hP : va_P D vwCl (XW cI cL cZ h a S9) H := hP
    have hD : va_D A (XW cI cL cZ h a S9) := hD
    refine lv_if_eq (tgt := 77) hx hb dX_stepBack_67 (by decide) (fun c11 => ?_) (fun c11 => ?_)
    · have hw := hw.1 c11
      refine lv_aload_n hx hb dX_stepBack_77 rfl (lv_at hl 0 rfl) ?_
      refine va_get (ci := 1) (v := .ref (a 15)) (C := RX9) (T := TX9) (N := 20) hx hb hts iX9 hown hK hP 0 (XWc_0 cI cL cZ h a S9) rfl 17 (by decide) (hto (.fieldLink RX9 53 "PieceTrace" "spot" "LPieceTrace$Place;") (by decide +kernel)) (fun _ h9 => h9) rfl dX_stepBack_78 ?_
      refine lv_aload_n hx hb dX_stepBack_81 rfl (lv_at hl 0 rfl) ?_
      refine va_get (ci := 1) (v := .ref (a 7)) (C := RX9) (T := TX9) (N := 20) hx hb hts iX9 hown hK hP 0 (XWc_0 cI cL cZ h a S9) rfl 7 (by decide) (hto (.fieldLink RX9 31 "PieceTrace" "seams" "[I") (by decide +kernel)) (fun _ h9 => h9) rfl dX_stepBack_82 ?_
      refine lv_iload_n hx hb dX_stepBack_85 rfl (lv_at hl 1 rfl) ?_
      obtain ⟨hi12, hw⟩ := hw
      refine va_iald (f := (xSm S9)) hx hb hK hP 8 0 (XWc_8 cI cL cZ h a S9) rfl hi12 dX_stepBack_86 ?_
      refine lv_ineg hx hb dX_stepBack_87 ?_
      refine lv_i2l (v := (-(xSm S9 p0.toNatClampNeg)).toInt64) hx hb dX_stepBack_88 rfl ?_
      refine gk_v (wr := []) (wc := XW cI cL cZ h a S9) (wfc := XW cI cL cZ h a) hP hD hS hA (va_runVN (As := [.long ((-(xSm S9 p0.toNatClampNeg)).toInt64)]) (rest := []) C (c_P_move l hl9 D cI cL cZ h a _ ((-(xSm S9 p0.toNatClampNeg)).toInt64) S9 hw H.size) ⟨va_cnB 1 hts (gGI kP_move) rfl rfl rfl (hG.1 (.methodLinkNest RX9 190 yP_move "PieceTrace") (by decide +kernel)) (hto (.initialized RP9) (by decide +kernel)) (by decide +kernel) ⟨Nat.le_of_ble_eq_true rfl, Nat.le_of_ble_eq_true rfl⟩, (hto (.instanceMethod yP_move) (by decide +kernel)), (hto (.selects RP9 yP_move yP_move) (by decide +kernel))⟩ (g_preV (wr := []) (wc := XW cI cL cZ h a S9) (ci := 0) hK hG hA hP hD hS rfl (XWc_16 cI cL cZ h a S9) rfl) rfl rfl hl.1 rfl (lv_room (Nat.le_of_ble_eq_true rfl)) dX_stepBack_89 ⟨Nat.le_of_ble_eq_true rfl, Nat.le_of_ble_eq_true rfl⟩) (fun  S13 H locs hw hP hD hS => ?_)
      have hP : va_P D vwCl (XW cI cL cZ h a S13) H := hP
      have hD : va_D A (XW cI cL cZ h a S13) := hD
      refine lv_aload_n hx hb dX_stepBack_92 rfl (lv_at hl 0 rfl) ?_
      refine va_get (ci := 1) (v := .ref (a 5)) (C := RX9) (T := TX9) (N := 20) hx hb hts iX9 hown hK hP 0 (XWc_0 cI cL cZ h a S13) rfl 5 (by decide) (hto (.fieldLink RX9 25 "PieceTrace" "seconds" "[I") (by decide +kernel)) (fun _ h9 => h9) rfl dX_stepBack_93 ?_
      refine lv_iload_n hx hb dX_stepBack_96 rfl (lv_at hl 1 rfl) ?_
      obtain ⟨hi14, hw⟩ := hw
      refine va_iald (f := (xSe S13)) hx hb hK hP 6 0 (XWc_6 cI cL cZ h a S13) rfl hi14 dX_stepBack_97 ?_
      exact gr_i hx hb hr hlocks hK hP hD hS hw (Nat.le_of_ble_eq_true rfl) (Nat.le_of_ble_eq_true rfl) dX_stepBack_98
    · have hw := hw.2 c11
      refine lv_aload_n hx hb dX_stepBack_70 rfl (lv_at hl 0 rfl) ?_
      refine va_get (ci := 1) (v := .ref (a 4)) (C := RX9) (T := TX9) (N := 20) hx hb hts iX9 hown hK hP 0 (XWc_0 cI cL cZ h a S9) rfl 4 (by decide) (hto (.fieldLink RX9 22 "PieceTrace" "sources" "[I") (by decide +kernel)) (fun _ h9 => h9) rfl dX_stepBack_71 ?_
      refine lv_iload_n hx hb dX_stepBack_74 rfl (lv_at hl 1 rfl) ?_
      obtain ⟨hi15, hw⟩ := hw
      refine va_iald (f := (xSo S9)) hx hb hK hP 5 0 (XWc_5 cI cL cZ h a S9) rfl hi15 dX_stepBack_75 ?_
      exact gr_i hx hb hr hlocks hK hP hD hS hw (Nat.le_of_ble_eq_true rfl) (Nat.le_of_ble_eq_true rfl) dX_stepBack_76
  have hw := hw.2 c7
  by_cases c16 : k2 = 4
  · have hw := hw.1 c16
    refine lv_tableIn (off := 93) (tgt := 99) hx hb dX_stepBack_6 (by rw [c16]; decide) (by rw [c16]; decide) (by rw [c16]; rfl) (by decide) ?_
    refine lv_aload_n hx hb dX_stepBack_99 rfl (lv_at hl 0 rfl) ?_
    refine va_get (ci := 1) (v := .ref (a 15)) (C := RX9) (T := TX9) (N := 20) hx hb hts iX9 hown hK hP 0 (XWc_0 cI cL cZ h a S) rfl 17 (by decide) (hto (.fieldLink RX9 53 "PieceTrace" "spot" "LPieceTrace$Place;") (by decide +kernel)) (fun _ h9 => h9) rfl dX_stepBack_100 ?_
    refine lv_aload_n hx hb dX_stepBack_103 rfl (lv_at hl 0 rfl) ?_
    refine va_get (ci := 1) (v := .ref (a 9)) (C := RX9) (T := TX9) (N := 20) hx hb hts iX9 hown hK hP 0 (XWc_0 cI cL cZ h a S) rfl 9 (by decide) (hto (.fieldLink RX9 37 "PieceTrace" "ratioLowers" "[I") (by decide +kernel)) (fun _ h9 => h9) rfl dX_stepBack_104 ?_
    refine lv_iload_n hx hb dX_stepBack_107 rfl (lv_at hl 1 rfl) ?_
    obtain ⟨hi17, hw⟩ := hw
    refine va_iald (f := (xRL S)) hx hb hK hP 10 0 (XWc_10 cI cL cZ h a S) rfl hi17 dX_stepBack_108 ?_
    refine lv_i2l (v := (xRL S p0.toNatClampNeg).toInt64) hx hb dX_stepBack_109 rfl ?_
    refine lv_aload_n hx hb dX_stepBack_110 rfl (lv_at hl 0 rfl) ?_
    refine va_get (ci := 1) (v := .ref (a 8)) (C := RX9) (T := TX9) (N := 20) hx hb hts iX9 hown hK hP 0 (XWc_0 cI cL cZ h a S) rfl 8 (by decide) (hto (.fieldLink RX9 34 "PieceTrace" "ratioUppers" "[I") (by decide +kernel)) (fun _ h9 => h9) rfl dX_stepBack_111 ?_
    refine lv_iload_n hx hb dX_stepBack_114 rfl (lv_at hl 1 rfl) ?_
    obtain ⟨hi18, hw⟩ := hw
    refine va_iald (f := (xRU S)) hx hb hK hP 9 0 (XWc_9 cI cL cZ h a S) rfl hi18 dX_stepBack_115 ?_
    refine lv_i2l (v := (xRU S p0.toNatClampNeg).toInt64) hx hb dX_stepBack_116 rfl ?_
    refine gk_v (wr := []) (wc := XW cI cL cZ h a S) (wfc := XW cI cL cZ h a) hP hD hS hA (va_runVN (As := [.long ((xRL S p0.toNatClampNeg).toInt64), .long ((xRU S p0.toNatClampNeg).toInt64)]) (rest := []) C (c_P_stretch l hl9 D cI cL cZ h a _ ((xRL S p0.toNatClampNeg).toInt64) ((xRU S p0.toNatClampNeg).toInt64) S hw H.size) ⟨va_cnB 2 hts (gGI kP_stretch) rfl rfl rfl (hG.1 (.methodLinkNest RX9 198 yP_stretch "PieceTrace") (by decide +kernel)) (hto (.initialized RP9) (by decide +kernel)) (by decide +kernel) ⟨Nat.le_of_ble_eq_true rfl, Nat.le_of_ble_eq_true rfl⟩, (hto (.instanceMethod yP_stretch) (by decide +kernel)), (hto (.selects RP9 yP_stretch yP_stretch) (by decide +kernel))⟩ (g_preV (wr := []) (wc := XW cI cL cZ h a S) (ci := 0) hK hG hA hP hD hS rfl (XWc_16 cI cL cZ h a S) rfl) rfl rfl hl.1 rfl (lv_room (Nat.le_of_ble_eq_true rfl)) dX_stepBack_117 ⟨Nat.le_of_ble_eq_true rfl, Nat.le_of_ble_eq_true rfl⟩) (fun  S19 H locs hw hP hD hS => ?_)
    have hP : va_P D vwCl (XW cI cL cZ h a S19) H := hP
    have hD : va_D A (XW cI cL cZ h a S19) := hD
    refine lv_aload_n hx hb dX_stepBack_120 rfl (lv_at hl 0 rfl) ?_
    refine va_get (ci := 1) (v := .ref (a 4)) (C := RX9) (T := TX9) (N := 20) hx hb hts iX9 hown hK hP 0 (XWc_0 cI cL cZ h a S19) rfl 4 (by decide) (hto (.fieldLink RX9 22 "PieceTrace" "sources" "[I") (by decide +kernel)) (fun _ h9 => h9) rfl dX_stepBack_121 ?_
    refine lv_iload_n hx hb dX_stepBack_124 rfl (lv_at hl 1 rfl) ?_
    obtain ⟨hi20, hw⟩ := hw
    refine va_iald (f := (xSo S19)) hx hb hK hP 5 0 (XWc_5 cI cL cZ h a S19) rfl hi20 dX_stepBack_125 ?_
    exact gr_i hx hb hr hlocks hK hP hD hS hw (Nat.le_of_ble_eq_true rfl) (Nat.le_of_ble_eq_true rfl) dX_stepBack_126
  have hw := hw.2 c16
  have nc3 := lv_neT (a := 2) c3 (by decide)
  have nc7 := lv_neT (a := 3) c7 (by decide)
  have nc16 := lv_neT (a := 4) c16 (by decide)
  refine lv_tableOut (tgt := 127) hx hb dX_stepBack_6 (by omega) (by decide) ?_
  refine lv_aload_n hx hb dX_stepBack_127 rfl (lv_at hl 0 rfl) ?_
  refine va_get (ci := 1) (v := .ref (a 4)) (C := RX9) (T := TX9) (N := 20) hx hb hts iX9 hown hK hP 0 (XWc_0 cI cL cZ h a S) rfl 4 (by decide) (hto (.fieldLink RX9 22 "PieceTrace" "sources" "[I") (by decide +kernel)) (fun _ h9 => h9) rfl dX_stepBack_128 ?_
  refine lv_iload_n hx hb dX_stepBack_131 rfl (lv_at hl 1 rfl) ?_
  obtain ⟨hi21, hw⟩ := hw
  refine va_iald (f := (xSo S)) hx hb hK hP 5 0 (XWc_5 cI cL cZ h a S) rfl hi21 dX_stepBack_132 ?_
  exact gr_i hx hb hr hlocks hK hP hD hS hw (Nat.le_of_ble_eq_true rfl) (Nat.le_of_ble_eq_true rfl) dX_stepBack_133
def wpL_X_walkBack_15 (post : Int32 → XSt → Prop) (p0 : Int32) (p1 : Int32) : Nat → XSt → Int32 → Int32 → Prop
  | 0 => fun _ _ _ => False
  | n + 1 => fun S u3 u4 => ((40 ≤ u4 → (post u3 S)) ∧ (¬ 40 ≤ u4 → (wp_X_stepBack (fun r4 S3 => (wp_X_isPiece (fun r6 S5 => ((r6 = 0 → (post u3 S5)) ∧ (¬ r6 = 0 → (∀ v4_8 : Int32, v4_8 = u4 + 1 → (wpL_X_walkBack_15 post p0 p1 n S5 r4 v4_8))))) r4 S3)) u3 S)))
def wp_X_walkBack (post : Int32 → XSt → Prop) (p0 : Int32) (p1 : Int32) (S : XSt) : Prop := (wp_P_set (fun  S1 => (∃ n : Nat, wpL_X_walkBack_15 post p0 p1 n S1 p0 0)) p1.toInt64 1 S)
set_option maxHeartbeats 4000000 in
set_option maxRecDepth 100000 in
theorem c_X_walkBack (l : Launch) (hl9 : l.stackTraces = false) (D : va_G) (cI cL cZ : ClassId) (h : Nat) (a : Nat → Nat) (post : Int32 → XSt → Prop) (p0 : Int32) (p1 : Int32) (S : XSt) (hw : wp_X_walkBack post p0 p1 S) : gMi l yX_walkBack wsX_walkBack ({ frames := 3, cells := 0, slots := 0, locals := 77 }) D [(cI, .int), (cL, .long), (cZ, .boolean)] [.ref h, .int p0, .int p1] (XW cI cL cZ h a S) (XW cI cL cZ h a) post := by
  refine g_ofMi (cc := cX_walkBack) (maxL := 6) (ret := (some .int)) (own := RX9) (by decide) rfl rfl (Nat.le_of_ble_eq_true rfl) ?_
  intro p e s m below meth c A H locs ls C hr hlocks hK hG hA hP hD hS hl
  obtain ⟨hx, hb, hml, hown, hts⟩ := id C
  have hts := fun w (h9 : w ∈ gW) => hts w (List.mem_cons_of_mem _ h9)
  have hto := fun w (h9 : w ∈ gWo) => hts w (gWo_in w h9)
  have hl : lv_has ls 6 [(0, .ref h), (1, .int p0), (2, .int p1)] := hl
  dsimp only [wp_X_walkBack] at hw
  refine lv_aload_n hx hb dX_walkBack_0 rfl (lv_at hl 0 rfl) ?_
  refine va_get (ci := 1) (v := .ref (a 15)) (C := RX9) (T := TX9) (N := 20) hx hb hts iX9 hown hK hP 0 (XWc_0 cI cL cZ h a S) rfl 17 (by decide) (hto (.fieldLink RX9 53 "PieceTrace" "spot" "LPieceTrace$Place;") (by decide +kernel)) (fun _ h9 => h9) rfl dX_walkBack_1 ?_
  refine lv_iload_n hx hb dX_walkBack_4 rfl (lv_at hl 2 rfl) ?_
  refine lv_i2l (v := p1.toInt64) hx hb dX_walkBack_5 rfl ?_
  refine lv_lconst (v := 1) hx hb dX_walkBack_6 (by decide) ?_
  refine gk_v (wr := []) (wc := XW cI cL cZ h a S) (wfc := XW cI cL cZ h a) hP hD hS hA (va_runVN (As := [.long p1.toInt64, .long 1]) (rest := []) C (c_P_set l hl9 D cI cL cZ h a _ p1.toInt64 1 S hw H.size) ⟨va_cnB 2 hts (gGI kP_set) rfl rfl rfl (hG.1 (.methodLinkNest RX9 182 yP_set "PieceTrace") (by decide +kernel)) (hto (.initialized RP9) (by decide +kernel)) (by decide +kernel) ⟨Nat.le_of_ble_eq_true rfl, Nat.le_of_ble_eq_true rfl⟩, (hto (.instanceMethod yP_set) (by decide +kernel)), (hto (.selects RP9 yP_set yP_set) (by decide +kernel))⟩ (g_preV (wr := []) (wc := XW cI cL cZ h a S) (ci := 0) hK hG hA hP hD hS rfl (XWc_16 cI cL cZ h a S) rfl) rfl rfl hl.1 rfl (lv_room (Nat.le_of_ble_eq_true rfl)) dX_walkBack_7 ⟨Nat.le_of_ble_eq_true rfl, Nat.le_of_ble_eq_true rfl⟩) (fun  S1 H locs hw hP hD hS => ?_)
  have hP : va_P D vwCl (XW cI cL cZ h a S1) H := hP
  have hD : va_D A (XW cI cL cZ h a S1) := hD
  refine lv_iload_n hx hb dX_walkBack_10 rfl (lv_at hl 1 rfl) ?_
  refine lv_istore_n (lv' := [(3, .int p0), (0, .ref h), (1, .int p0), (2, .int p1)]) hx hb dX_walkBack_11 rfl hl (by decide) rfl (fun ls hl => ?_)
  refine lv_iconst (v := 0) hx hb dX_walkBack_12 (by decide) ?_
  refine lv_istore (lv' := [(4, .int 0), (3, .int p0), (0, .ref h), (1, .int p0), (2, .int p1)]) hx hb dX_walkBack_13 hl (by decide) rfl (fun ls hl => ?_)
  obtain ⟨n, hw⟩ := hw
  have hL : ∀ (n : Nat) (S : XSt) (u3 : Int32) (u4 : Int32) (H : Heap) (locs : List Loc) (ls : Array Slot), wpL_X_walkBack_15 post p0 p1 n S u3 u4 → va_P D vwCl (XW cI cL cZ h a S) H → va_D A (XW cI cL cZ h a S) → va_S A s.heap H locs → lv_has ls 6 [(3, .int u3), (4, .int u4), (0, .ref h)] → W p l e (headSpec wsX_walkBack { frames := 3, cells := 0, slots := 0, locals := 77 }).room s m ([.ref h, .int p0, .int p1] : List Value).toArray below meth c H locs 0 0 (MQ below (gQi D [(cI, .int), (cL, .long), (cZ, .boolean)] (XW cI cL cZ h a) post A) ([.ref h, .int p0, .int p1] : List Value).toArray s 0 0 A) (F0 m 15 ls []) := by
    intro n
    induction n with
    | zero => intro S u3 u4 H locs ls hw; exact hw.elim
    | succ n ih =>
      intro S u3 u4 H locs ls hw hP hD hS hl
      dsimp only [wpL_X_walkBack_15] at hw
      refine lv_iload hx hb dX_walkBack_15 (lv_at hl 1 rfl) ?_
      refine lv_bipush (v := 40) hx hb dX_walkBack_17 (by decide) ?_
      refine lv_icmp_ge (tgt := 49) hx hb dX_walkBack_19 (by decide) (fun c2 => ?_) (fun c2 => ?_)
      · have hw := hw.1 c2
        refine lv_iload_n hx hb dX_walkBack_49 rfl (lv_at hl 0 rfl) ?_
        exact gr_i hx hb hr hlocks hK hP hD hS hw (Nat.le_of_ble_eq_true rfl) (Nat.le_of_ble_eq_true rfl) dX_walkBack_50
      · have hw := hw.2 c2
        refine lv_aload_n hx hb dX_walkBack_22 rfl (lv_at hl 2 rfl) ?_
        refine lv_iload_n hx hb dX_walkBack_23 rfl (lv_at hl 0 rfl) ?_
        refine gk_i (wr := []) (wc := XW cI cL cZ h a S) (wfc := XW cI cL cZ h a) hP hD hS hA (va_runV (As := [.int u3]) (rest := []) C (c_X_stepBack l hl9 D cI cL cZ h a _ u3 S hw H.size) (cwV 1 hts (gGV (by decide +kernel) kX_stepBack) rfl rfl rfl (by decide +kernel) ⟨Nat.le_of_ble_eq_true rfl, Nat.le_of_ble_eq_true rfl⟩) (g_preV (wr := []) (wc := XW cI cL cZ h a S) (ci := 1) hK hG hA hP hD hS rfl (XWc_0 cI cL cZ h a S) rfl) rfl rfl hl.1 rfl (lv_room (Nat.le_of_ble_eq_true rfl)) dX_walkBack_24 ⟨Nat.le_of_ble_eq_true rfl, Nat.le_of_ble_eq_true rfl⟩) (fun r4 S3 H locs hw hP hD hS => ?_)
        have hP : va_P D vwCl (XW cI cL cZ h a S3) H := hP
        have hD : va_D A (XW cI cL cZ h a S3) := hD
        refine lv_istore (lv' := [(5, .int r4), (3, .int u3), (4, .int u4), (0, .ref h)]) hx hb dX_walkBack_27 hl (by decide) rfl (fun ls hl => ?_)
        refine lv_aload_n hx hb dX_walkBack_29 rfl (lv_at hl 3 rfl) ?_
        refine lv_iload hx hb dX_walkBack_30 (lv_at hl 0 rfl) ?_
        refine gk_z (wr := []) (wc := XW cI cL cZ h a S3) (wfc := XW cI cL cZ h a) hP hD hS hA (va_runV (As := [.int r4]) (rest := []) C (c_X_isPiece l hl9 D cI cL cZ h a _ r4 S3 hw H.size) (cwV 1 hts (gGV (by decide +kernel) kX_isPiece) rfl rfl rfl (by decide +kernel) ⟨Nat.le_of_ble_eq_true rfl, Nat.le_of_ble_eq_true rfl⟩) (g_preV (wr := []) (wc := XW cI cL cZ h a S3) (ci := 1) hK hG hA hP hD hS rfl (XWc_0 cI cL cZ h a S3) rfl) rfl rfl hl.1 rfl (lv_room (Nat.le_of_ble_eq_true rfl)) dX_walkBack_32 ⟨Nat.le_of_ble_eq_true rfl, Nat.le_of_ble_eq_true rfl⟩) (fun r6 S5 hbr6 H locs hw hP hD hS => ?_)
        have hP : va_P D vwCl (XW cI cL cZ h a S5) H := hP
        have hD : va_D A (XW cI cL cZ h a S5) := hD
        refine lv_if_ne (tgt := 40) hx hb dX_walkBack_35 (by decide) (fun c7 => ?_) (fun c7 => ?_)
        · have hw := hw.2 c7
          refine lv_iload hx hb dX_walkBack_40 (lv_at hl 0 rfl) ?_
          refine lv_istore_n (lv' := [(3, .int r4), (5, .int r4), (4, .int u4), (0, .ref h)]) hx hb dX_walkBack_42 rfl hl (by decide) rfl (fun ls hl => ?_)
          obtain ⟨v4_8, ev4_8⟩ : ∃ y : Int32, y = u4 + 1 := ⟨_, rfl⟩
          have hw := hw v4_8 ev4_8
          refine lv_iinc (v := v4_8) (lv' := [(4, .int v4_8), (3, .int r4), (5, .int r4), (0, .ref h)]) hx hb dX_walkBack_43 hl (k := 2) rfl (by rw [ev4_8]; rfl) (by decide) rfl (fun ls hl => ?_)
          refine lv_goto (tgt := 15) hx hb dX_walkBack_46 (by decide) ?_
          refine W.widen (k := 0) (n := 0) (Nat.le_of_ble_eq_true rfl) (Nat.le_of_ble_eq_true rfl) ?_
          exact ih S5 r4 v4_8 H locs ls hw hP hD hS (lv_sub hl [1, 0, 3] rfl)
        · have hw := hw.1 c7
          refine lv_iload_n hx hb dX_walkBack_38 rfl (lv_at hl 1 rfl) ?_
          exact gr_i hx hb hr hlocks hK hP hD hS hw (Nat.le_of_ble_eq_true rfl) (Nat.le_of_ble_eq_true rfl) dX_walkBack_39
  refine W.widen (k := 0) (n := 0) (Nat.le_of_ble_eq_true rfl) (Nat.le_of_ble_eq_true rfl) ?_
  exact hL n S1 p0 0 H locs ls hw hP hD hS (lv_sub hl [1, 0, 2] rfl)
def wp_X_takeFound (post : Int32 → XSt → Prop) (p0 : Int32) (S : XSt) : Prop := (wp_X_isPiece (fun r2 S1 => ((r2 = 0 → (post 0 S1)) ∧ (¬ r2 = 0 → (vp_in p0 40 ∧ (vp_in p0 40 ∧ (wp_P_set (fun  S6 => (vp_in p0 40 ∧ (((xFL S6 p0.toNatClampNeg) = 0 → (post 0 S6)) ∧ (¬ (xFL S6 p0.toNatClampNeg) = 0 → (post 1 S6))))) (xFU S1 p0.toNatClampNeg) (xFL S1 p0.toNatClampNeg) S1)))))) p0 S)
set_option maxHeartbeats 4000000 in
set_option maxRecDepth 100000 in
theorem c_X_takeFound (l : Launch) (hl9 : l.stackTraces = false) (D : va_G) (cI cL cZ : ClassId) (h : Nat) (a : Nat → Nat) (post : Int32 → XSt → Prop) (p0 : Int32) (S : XSt) (hw : wp_X_takeFound post p0 S) : gMz l yX_takeFound wsX_takeFound ({ frames := 1, cells := 0, slots := 0, locals := 24 }) D [(cI, .int), (cL, .long), (cZ, .boolean)] [.ref h, .int p0] (XW cI cL cZ h a S) (XW cI cL cZ h a) post := by
  refine g_ofMz (cc := cX_takeFound) (maxL := 2) (ret := (some .boolean)) (own := RX9) (by decide) rfl rfl (Nat.le_of_ble_eq_true rfl) ?_
  intro p e s m below meth c A H locs ls C hr hlocks hK hG hA hP hD hS hl
  obtain ⟨hx, hb, hml, hown, hts⟩ := id C
  have hts := fun w (h9 : w ∈ gW) => hts w (List.mem_cons_of_mem _ h9)
  have hto := fun w (h9 : w ∈ gWo) => hts w (gWo_in w h9)
  have hl : lv_has ls 2 [(0, .ref h), (1, .int p0)] := hl
  dsimp only [wp_X_takeFound] at hw
  refine lv_aload_n hx hb dX_takeFound_0 rfl (lv_at hl 0 rfl) ?_
  refine lv_iload_n hx hb dX_takeFound_1 rfl (lv_at hl 1 rfl) ?_
  refine gk_z (wr := []) (wc := XW cI cL cZ h a S) (wfc := XW cI cL cZ h a) hP hD hS hA (va_runV (As := [.int p0]) (rest := []) C (c_X_isPiece l hl9 D cI cL cZ h a _ p0 S hw H.size) (cwV 1 hts (gGV (by decide +kernel) kX_isPiece) rfl rfl rfl (by decide +kernel) ⟨Nat.le_of_ble_eq_true rfl, Nat.le_of_ble_eq_true rfl⟩) (g_preV (wr := []) (wc := XW cI cL cZ h a S) (ci := 1) hK hG hA hP hD hS rfl (XWc_0 cI cL cZ h a S) rfl) rfl rfl hl.1 rfl (lv_room (Nat.le_of_ble_eq_true rfl)) dX_takeFound_2 ⟨Nat.le_of_ble_eq_true rfl, Nat.le_of_ble_eq_true rfl⟩) (fun r2 S1 hbr2 H locs hw hP hD hS => ?_)
  have hP : va_P D vwCl (XW cI cL cZ h a S1) H := hP
  have hD : va_D A (XW cI cL cZ h a S1) := hD
  refine lv_if_ne (tgt := 10) hx hb dX_takeFound_5 (by decide) (fun c3 => ?_) (fun c3 => ?_)
  · have hw := hw.2 c3
    refine lv_aload_n hx hb dX_takeFound_10 rfl (lv_at hl 0 rfl) ?_
    refine va_get (ci := 1) (v := .ref (a 15)) (C := RX9) (T := TX9) (N := 20) hx hb hts iX9 hown hK hP 0 (XWc_0 cI cL cZ h a S1) rfl 17 (by decide) (hto (.fieldLink RX9 53 "PieceTrace" "spot" "LPieceTrace$Place;") (by decide +kernel)) (fun _ h9 => h9) rfl dX_takeFound_11 ?_
    refine lv_aload_n hx hb dX_takeFound_14 rfl (lv_at hl 0 rfl) ?_
    refine va_get (ci := 1) (v := .ref (a 13)) (C := RX9) (T := TX9) (N := 20) hx hb hts iX9 hown hK hP 0 (XWc_0 cI cL cZ h a S1) rfl 18 (by decide) (hto (.fieldLink RX9 57 "PieceTrace" "foundUppers" "[J") (by decide +kernel)) (fun _ h9 => h9) rfl dX_takeFound_15 ?_
    refine lv_iload_n hx hb dX_takeFound_18 rfl (lv_at hl 1 rfl) ?_
    obtain ⟨hi4, hw⟩ := hw
    refine va_lald (f := (xFU S1)) hx hb hK hP 14 1 (XWc_14 cI cL cZ h a S1) rfl hi4 dX_takeFound_19 ?_
    refine lv_aload_n hx hb dX_takeFound_20 rfl (lv_at hl 0 rfl) ?_
    refine va_get (ci := 1) (v := .ref (a 14)) (C := RX9) (T := TX9) (N := 20) hx hb hts iX9 hown hK hP 0 (XWc_0 cI cL cZ h a S1) rfl 19 (by decide) (hto (.fieldLink RX9 60 "PieceTrace" "foundLowers" "[J") (by decide +kernel)) (fun _ h9 => h9) rfl dX_takeFound_21 ?_
    refine lv_iload_n hx hb dX_takeFound_24 rfl (lv_at hl 1 rfl) ?_
    obtain ⟨hi5, hw⟩ := hw
    refine va_lald (f := (xFL S1)) hx hb hK hP 15 1 (XWc_15 cI cL cZ h a S1) rfl hi5 dX_takeFound_25 ?_
    refine gk_v (wr := []) (wc := XW cI cL cZ h a S1) (wfc := XW cI cL cZ h a) hP hD hS hA (va_runVN (As := [.long (xFU S1 p0.toNatClampNeg), .long (xFL S1 p0.toNatClampNeg)]) (rest := []) C (c_P_set l hl9 D cI cL cZ h a _ (xFU S1 p0.toNatClampNeg) (xFL S1 p0.toNatClampNeg) S1 hw H.size) ⟨va_cnB 2 hts (gGI kP_set) rfl rfl rfl (hG.1 (.methodLinkNest RX9 182 yP_set "PieceTrace") (by decide +kernel)) (hto (.initialized RP9) (by decide +kernel)) (by decide +kernel) ⟨Nat.le_of_ble_eq_true rfl, Nat.le_of_ble_eq_true rfl⟩, (hto (.instanceMethod yP_set) (by decide +kernel)), (hto (.selects RP9 yP_set yP_set) (by decide +kernel))⟩ (g_preV (wr := []) (wc := XW cI cL cZ h a S1) (ci := 0) hK hG hA hP hD hS rfl (XWc_16 cI cL cZ h a S1) rfl) rfl rfl hl.1 rfl (lv_room (Nat.le_of_ble_eq_true rfl)) dX_takeFound_26 ⟨Nat.le_of_ble_eq_true rfl, Nat.le_of_ble_eq_true rfl⟩) (fun  S6 H locs hw hP hD hS => ?_)
    have hP : va_P D vwCl (XW cI cL cZ h a S6) H := hP
    have hD : va_D A (XW cI cL cZ h a S6) := hD
    refine lv_aload_n hx hb dX_takeFound_29 rfl (lv_at hl 0 rfl) ?_
    refine va_get (ci := 1) (v := .ref (a 14)) (C := RX9) (T := TX9) (N := 20) hx hb hts iX9 hown hK hP 0 (XWc_0 cI cL cZ h a S6) rfl 19 (by decide) (hto (.fieldLink RX9 60 "PieceTrace" "foundLowers" "[J") (by decide +kernel)) (fun _ h9 => h9) rfl dX_takeFound_30 ?_
    refine lv_iload_n hx hb dX_takeFound_33 rfl (lv_at hl 1 rfl) ?_
    obtain ⟨hi7, hw⟩ := hw
    refine va_lald (f := (xFL S6)) hx hb hK hP 15 1 (XWc_15 cI cL cZ h a S6) rfl hi7 dX_takeFound_34 ?_
    refine lv_lconst (v := 0) hx hb dX_takeFound_35 (by decide) ?_
    refine W.lcmp hx hb dX_takeFound_36 ?_
    refine lv_if_eq (tgt := 44) hx hb dX_takeFound_37 (by decide) (fun c8 => ?_) (fun c8 => ?_)
    · have c8 : (xFL S6 p0.toNatClampNeg) = 0 := (lg_cmp_eq _ _).mp c8
      have hw := hw.1 c8
      refine lv_iconst (v := 0) hx hb dX_takeFound_44 (by decide) ?_
      exact gr_z hx hb hr hlocks (Or.inl rfl) hK hP hD hS hw (Nat.le_of_ble_eq_true rfl) (Nat.le_of_ble_eq_true rfl) dX_takeFound_45
    · have c8 : ¬ (xFL S6 p0.toNatClampNeg) = 0 := fun h9 => c8 ((lg_cmp_eq _ _).mpr h9)
      have hw := hw.2 c8
      refine lv_iconst (v := 1) hx hb dX_takeFound_40 (by decide) ?_
      refine lv_goto (tgt := 45) hx hb dX_takeFound_41 (by decide) ?_
      exact gr_z hx hb hr hlocks (Or.inr rfl) hK hP hD hS hw (Nat.le_of_ble_eq_true rfl) (Nat.le_of_ble_eq_true rfl) dX_takeFound_45
  · have hw := hw.1 c3
    refine lv_iconst (v := 0) hx hb dX_takeFound_8 (by decide) ?_
    exact gr_z hx hb hr hlocks (Or.inl rfl) hK hP hD hS hw (Nat.le_of_ble_eq_true rfl) (Nat.le_of_ble_eq_true rfl) dX_takeFound_9
def wp_X_stepForward (post : Int32 → XSt → Prop) (p0 : Int32) (p1 : Int32) (S : XSt) : Prop := (vp_in p1 40 ∧ (wp_X_takeFound (fun r3 S2 => (vp_in p1 40 ∧ (∀ k5 : Int32, k5 = (xKi S2 p1.toNatClampNeg) → ((k5 = 0 → (vp_in p0 10 ∧ (vp_in p0 10 ∧ (wp_P_set (fun  S9 => (vp_in p0 10 ∧ (((xDM S9 p0.toNatClampNeg) = p1 → (post 1 S9)) ∧ (¬ (xDM S9 p0.toNatClampNeg) = p1 → (post 0 S9))))) (xDU S2 p0.toNatClampNeg) (xDL S2 p0.toNatClampNeg) S2)))) ∧ (¬ k5 = 0 → ((k5 = 1 → ((r3 = 0 → (post 0 S2)) ∧ (¬ r3 = 0 → (vp_in p1 40 ∧ (wp_P_isBelow (fun r16 S15 => ((r16 = 0 → (post 0 S15)) ∧ (¬ r16 = 0 → (post 1 S15)))) ((xSm S2 p1.toNatClampNeg).toInt64) S2))))) ∧ (¬ k5 = 1 → ((k5 = 2 → ((r3 = 0 → (post 0 S2)) ∧ (¬ r3 = 0 → (vp_in p1 40 ∧ (wp_P_isBelow (fun r22 S21 => ((r22 = 0 → (vp_in p1 40 ∧ (wp_P_move (fun  S25 => (post 1 S25)) ((-(xSm S21 p1.toNatClampNeg)).toInt64) S21))) ∧ (¬ r22 = 0 → (post 0 S21)))) ((xSm S2 p1.toNatClampNeg).toInt64) S2))))) ∧ (¬ k5 = 2 → ((k5 = 3 → ((r3 = 0 → (vp_in p1 40 ∧ (wp_X_takeFound (fun r30 S29 => ((r30 = 0 → (post r3 S29)) ∧ (¬ r30 = 0 → (vp_in p1 40 ∧ (wp_P_move (fun  S33 => (post 1 S33)) ((xSm S29 p1.toNatClampNeg).toInt64) S29))))) (xSe S2 p1.toNatClampNeg) S2))) ∧ (¬ r3 = 0 → (post r3 S2)))) ∧ (¬ k5 = 3 → ((k5 = 4 → ((r3 = 0 → (post 0 S2)) ∧ (¬ r3 = 0 → (vp_in p1 40 ∧ (vp_in p1 40 ∧ (wp_P_stretch (fun  S38 => (vp_in p1 40 ∧ (wp_P_isBelow (fun r41 S40 => (post r41 S40)) ((xLe S38 p1.toNatClampNeg).toInt64) S38))) ((xRU S2 p1.toNatClampNeg).toInt64) ((xRL S2 p1.toNatClampNeg).toInt64) S2)))))) ∧ (¬ k5 = 4 → (post r3 S2)))))))))))))) (xSo S p1.toNatClampNeg) S))
set_option maxHeartbeats 4000000 in
set_option maxRecDepth 100000 in
theorem c_X_stepForward (l : Launch) (hl9 : l.stackTraces = false) (D : va_G) (cI cL cZ : ClassId) (h : Nat) (a : Nat → Nat) (post : Int32 → XSt → Prop) (p0 : Int32) (p1 : Int32) (S : XSt) (hw : wp_X_stepForward post p0 p1 S) : gMz l yX_stepForward wsX_stepForward ({ frames := 2, cells := 0, slots := 0, locals := 56 }) D [(cI, .int), (cL, .long), (cZ, .boolean)] [.ref h, .int p0, .int p1] (XW cI cL cZ h a S) (XW cI cL cZ h a) post := by
  refine g_ofMz (cc := cX_stepForward) (maxL := 4) (ret := (some .boolean)) (own := RX9) (by decide) rfl rfl (Nat.le_of_ble_eq_true rfl) ?_
  intro p e s m below meth c A H locs ls C hr hlocks hK hG hA hP hD hS hl
  obtain ⟨hx, hb, hml, hown, hts⟩ := id C
  have hts := fun w (h9 : w ∈ gW) => hts w (List.mem_cons_of_mem _ h9)
  have hto := fun w (h9 : w ∈ gWo) => hts w (gWo_in w h9)
  have hl : lv_has ls 4 [(0, .ref h), (1, .int p0), (2, .int p1)] := hl
  dsimp only [wp_X_stepForward] at hw
  refine lv_aload_n hx hb dX_stepForward_0 rfl (lv_at hl 0 rfl) ?_
  refine lv_aload_n hx hb dX_stepForward_1 rfl (lv_at hl 0 rfl) ?_
  refine va_get (ci := 1) (v := .ref (a 4)) (C := RX9) (T := TX9) (N := 20) hx hb hts iX9 hown hK hP 0 (XWc_0 cI cL cZ h a S) rfl 4 (by decide) (hto (.fieldLink RX9 22 "PieceTrace" "sources" "[I") (by decide +kernel)) (fun _ h9 => h9) rfl dX_stepForward_2 ?_
  refine lv_iload_n hx hb dX_stepForward_5 rfl (lv_at hl 2 rfl) ?_
  obtain ⟨hi1, hw⟩ := hw
  refine va_iald (f := (xSo S)) hx hb hK hP 5 0 (XWc_5 cI cL cZ h a S) rfl hi1 dX_stepForward_6 ?_
  refine gk_z (wr := []) (wc := XW cI cL cZ h a S) (wfc := XW cI cL cZ h a) hP hD hS hA (va_runV (As := [.int (xSo S p1.toNatClampNeg)]) (rest := []) C (c_X_takeFound l hl9 D cI cL cZ h a _ (xSo S p1.toNatClampNeg) S hw H.size) (cwV 1 hts (gGV (by decide +kernel) kX_takeFound) rfl rfl rfl (by decide +kernel) ⟨Nat.le_of_ble_eq_true rfl, Nat.le_of_ble_eq_true rfl⟩) (g_preV (wr := []) (wc := XW cI cL cZ h a S) (ci := 1) hK hG hA hP hD hS rfl (XWc_0 cI cL cZ h a S) rfl) rfl rfl hl.1 rfl (lv_room (Nat.le_of_ble_eq_true rfl)) dX_stepForward_7 ⟨Nat.le_of_ble_eq_true rfl, Nat.le_of_ble_eq_true rfl⟩) (fun r3 S2 hbr3 H locs hw hP hD hS => ?_)
  have hP : va_P D vwCl (XW cI cL cZ h a S2) H := hP
  have hD : va_D A (XW cI cL cZ h a S2) := hD
  refine lv_istore_n (lv' := [(3, .int r3), (0, .ref h), (1, .int p0), (2, .int p1)]) hx hb dX_stepForward_10 rfl hl (by decide) rfl (fun ls hl => ?_)
  refine lv_aload_n hx hb dX_stepForward_11 rfl (lv_at hl 1 rfl) ?_
  refine va_get (ci := 1) (v := .ref (a 0)) (C := RX9) (T := TX9) (N := 20) hx hb hts iX9 hown hK hP 0 (XWc_0 cI cL cZ h a S2) rfl 0 (by decide) (hto (.fieldLink RX9 9 "PieceTrace" "kinds" "[I") (by decide +kernel)) (fun _ h9 => h9) rfl dX_stepForward_12 ?_
  refine lv_iload_n hx hb dX_stepForward_15 rfl (lv_at hl 3 rfl) ?_
  obtain ⟨hi4, hw⟩ := hw
  refine va_iald (f := (xKi S2)) hx hb hK hP 1 0 (XWc_1 cI cL cZ h a S2) rfl hi4 dX_stepForward_16 ?_
  refine lv_topi (fun k5 ek5 => ?_)
  have hw := hw k5 ek5
  by_cases c6 : k5 = 0
  · have hw := hw.1 c6
    refine lv_tableIn (off := 35) (tgt := 52) hx hb dX_stepForward_17 (by rw [c6]; decide) (by rw [c6]; decide) (by rw [c6]; rfl) (by decide) ?_
    refine lv_aload_n hx hb dX_stepForward_52 rfl (lv_at hl 1 rfl) ?_
    refine va_get (ci := 1) (v := .ref (a 15)) (C := RX9) (T := TX9) (N := 20) hx hb hts iX9 hown hK hP 0 (XWc_0 cI cL cZ h a S2) rfl 17 (by decide) (hto (.fieldLink RX9 53 "PieceTrace" "spot" "LPieceTrace$Place;") (by decide +kernel)) (fun _ h9 => h9) rfl dX_stepForward_53 ?_
    refine lv_aload_n hx hb dX_stepForward_56 rfl (lv_at hl 1 rfl) ?_
    refine va_get (ci := 1) (v := .ref (a 11)) (C := RX9) (T := TX9) (N := 20) hx hb hts iX9 hown hK hP 0 (XWc_0 cI cL cZ h a S2) rfl 12 (by decide) (hto (.fieldLink RX9 43 "PieceTrace" "defectUppers" "[J") (by decide +kernel)) (fun _ h9 => h9) rfl dX_stepForward_57 ?_
    refine lv_iload_n hx hb dX_stepForward_60 rfl (lv_at hl 2 rfl) ?_
    obtain ⟨hi7, hw⟩ := hw
    refine va_lald (f := (xDU S2)) hx hb hK hP 12 1 (XWc_12 cI cL cZ h a S2) rfl hi7 dX_stepForward_61 ?_
    refine lv_aload_n hx hb dX_stepForward_62 rfl (lv_at hl 1 rfl) ?_
    refine va_get (ci := 1) (v := .ref (a 12)) (C := RX9) (T := TX9) (N := 20) hx hb hts iX9 hown hK hP 0 (XWc_0 cI cL cZ h a S2) rfl 13 (by decide) (hto (.fieldLink RX9 47 "PieceTrace" "defectLowers" "[J") (by decide +kernel)) (fun _ h9 => h9) rfl dX_stepForward_63 ?_
    refine lv_iload_n hx hb dX_stepForward_66 rfl (lv_at hl 2 rfl) ?_
    obtain ⟨hi8, hw⟩ := hw
    refine va_lald (f := (xDL S2)) hx hb hK hP 13 1 (XWc_13 cI cL cZ h a S2) rfl hi8 dX_stepForward_67 ?_
    refine gk_v (wr := []) (wc := XW cI cL cZ h a S2) (wfc := XW cI cL cZ h a) hP hD hS hA (va_runVN (As := [.long (xDU S2 p0.toNatClampNeg), .long (xDL S2 p0.toNatClampNeg)]) (rest := []) C (c_P_set l hl9 D cI cL cZ h a _ (xDU S2 p0.toNatClampNeg) (xDL S2 p0.toNatClampNeg) S2 hw H.size) ⟨va_cnB 2 hts (gGI kP_set) rfl rfl rfl (hG.1 (.methodLinkNest RX9 182 yP_set "PieceTrace") (by decide +kernel)) (hto (.initialized RP9) (by decide +kernel)) (by decide +kernel) ⟨Nat.le_of_ble_eq_true rfl, Nat.le_of_ble_eq_true rfl⟩, (hto (.instanceMethod yP_set) (by decide +kernel)), (hto (.selects RP9 yP_set yP_set) (by decide +kernel))⟩ (g_preV (wr := []) (wc := XW cI cL cZ h a S2) (ci := 0) hK hG hA hP hD hS rfl (XWc_16 cI cL cZ h a S2) rfl) rfl rfl hl.1 rfl (lv_room (Nat.le_of_ble_eq_true rfl)) dX_stepForward_68 ⟨Nat.le_of_ble_eq_true rfl, Nat.le_of_ble_eq_true rfl⟩) (fun  S9 H locs hw hP hD hS => ?_)
    have hP : va_P D vwCl (XW cI cL cZ h a S9) H := hP
    have hD : va_D A (XW cI cL cZ h a S9) := hD
    refine lv_aload_n hx hb dX_stepForward_71 rfl (lv_at hl 1 rfl) ?_
    refine va_get (ci := 1) (v := .ref (a 10)) (C := RX9) (T := TX9) (N := 20) hx hb hts iX9 hown hK hP 0 (XWc_0 cI cL cZ h a S9) rfl 11 (by decide) (hto (.fieldLink RX9 40 "PieceTrace" "defectMelts" "[I") (by decide +kernel)) (fun _ h9 => h9) rfl dX_stepForward_72 ?_
    refine lv_iload_n hx hb dX_stepForward_75 rfl (lv_at hl 2 rfl) ?_
    obtain ⟨hi10, hw⟩ := hw
    refine va_iald (f := (xDM S9)) hx hb hK hP 11 0 (XWc_11 cI cL cZ h a S9) rfl hi10 dX_stepForward_76 ?_
    refine lv_iload_n hx hb dX_stepForward_77 rfl (lv_at hl 3 rfl) ?_
    refine lv_icmp_ne (tgt := 85) hx hb dX_stepForward_78 (by decide) (fun c11 => ?_) (fun c11 => ?_)
    · have hw := hw.2 c11
      refine lv_iconst (v := 0) hx hb dX_stepForward_85 (by decide) ?_
      exact gr_z hx hb hr hlocks (Or.inl rfl) hK hP hD hS hw (Nat.le_of_ble_eq_true rfl) (Nat.le_of_ble_eq_true rfl) dX_stepForward_86
    · have hw := hw.1 c11
      refine lv_iconst (v := 1) hx hb dX_stepForward_81 (by decide) ?_
      refine lv_goto (tgt := 86) hx hb dX_stepForward_82 (by decide) ?_
      exact gr_z hx hb hr hlocks (Or.inr rfl) hK hP hD hS hw (Nat.le_of_ble_eq_true rfl) (Nat.le_of_ble_eq_true rfl) dX_stepForward_86
  have hw := hw.2 c6
  by_cases c12 : k5 = 1
  · have hw := hw.1 c12
    refine lv_tableIn (off := 70) (tgt := 87) hx hb dX_stepForward_17 (by rw [c12]; decide) (by rw [c12]; decide) (by rw [c12]; rfl) (by decide) ?_
    refine lv_iload_n hx hb dX_stepForward_87 rfl (lv_at hl 0 rfl) ?_
    refine lv_if_eq (tgt := 112) hx hb dX_stepForward_88 (by decide) (fun c13 => ?_) (fun c13 => ?_)
    · have hw := hw.1 c13
      refine lv_iconst (v := 0) hx hb dX_stepForward_112 (by decide) ?_
      exact gr_z hx hb hr hlocks (Or.inl rfl) hK hP hD hS hw (Nat.le_of_ble_eq_true rfl) (Nat.le_of_ble_eq_true rfl) dX_stepForward_113
    · have hw := hw.2 c13
      refine lv_aload_n hx hb dX_stepForward_91 rfl (lv_at hl 1 rfl) ?_
      refine va_get (ci := 1) (v := .ref (a 15)) (C := RX9) (T := TX9) (N := 20) hx hb hts iX9 hown hK hP 0 (XWc_0 cI cL cZ h a S2) rfl 17 (by decide) (hto (.fieldLink RX9 53 "PieceTrace" "spot" "LPieceTrace$Place;") (by decide +kernel)) (fun _ h9 => h9) rfl dX_stepForward_92 ?_
      refine lv_aload_n hx hb dX_stepForward_95 rfl (lv_at hl 1 rfl) ?_
      refine va_get (ci := 1) (v := .ref (a 7)) (C := RX9) (T := TX9) (N := 20) hx hb hts iX9 hown hK hP 0 (XWc_0 cI cL cZ h a S2) rfl 7 (by decide) (hto (.fieldLink RX9 31 "PieceTrace" "seams" "[I") (by decide +kernel)) (fun _ h9 => h9) rfl dX_stepForward_96 ?_
      refine lv_iload_n hx hb dX_stepForward_99 rfl (lv_at hl 3 rfl) ?_
      obtain ⟨hi14, hw⟩ := hw
      refine va_iald (f := (xSm S2)) hx hb hK hP 8 0 (XWc_8 cI cL cZ h a S2) rfl hi14 dX_stepForward_100 ?_
      refine lv_i2l (v := (xSm S2 p1.toNatClampNeg).toInt64) hx hb dX_stepForward_101 rfl ?_
      refine gk_z (wr := []) (wc := XW cI cL cZ h a S2) (wfc := XW cI cL cZ h a) hP hD hS hA (va_runVN (As := [.long ((xSm S2 p1.toNatClampNeg).toInt64)]) (rest := []) C (c_P_isBelow l hl9 D cI cL cZ h a _ ((xSm S2 p1.toNatClampNeg).toInt64) S2 hw H.size) ⟨va_cnB 1 hts (gGI kP_isBelow) rfl rfl rfl (hG.1 (.methodLinkNest RX9 194 yP_isBelow "PieceTrace") (by decide +kernel)) (hto (.initialized RP9) (by decide +kernel)) (by decide +kernel) ⟨Nat.le_of_ble_eq_true rfl, Nat.le_of_ble_eq_true rfl⟩, (hto (.instanceMethod yP_isBelow) (by decide +kernel)), (hto (.selects RP9 yP_isBelow yP_isBelow) (by decide +kernel))⟩ (g_preV (wr := []) (wc := XW cI cL cZ h a S2) (ci := 0) hK hG hA hP hD hS rfl (XWc_16 cI cL cZ h a S2) rfl) rfl rfl hl.1 rfl (lv_room (Nat.le_of_ble_eq_true rfl)) dX_stepForward_102 ⟨Nat.le_of_ble_eq_true rfl, Nat.le_of_ble_eq_true rfl⟩) (fun r16 S15 hbr16 H locs hw hP hD hS => ?_)
      have hP : va_P D vwCl (XW cI cL cZ h a S15) H := hP
      have hD : va_D A (XW cI cL cZ h a S15) := hD
      refine lv_if_eq (tgt := 112) hx hb dX_stepForward_105 (by decide) (fun c17 => ?_) (fun c17 => ?_)
      · have hw := hw.1 c17
        refine lv_iconst (v := 0) hx hb dX_stepForward_112 (by decide) ?_
        exact gr_z hx hb hr hlocks (Or.inl rfl) hK hP hD hS hw (Nat.le_of_ble_eq_true rfl) (Nat.le_of_ble_eq_true rfl) dX_stepForward_113
      · have hw := hw.2 c17
        refine lv_iconst (v := 1) hx hb dX_stepForward_108 (by decide) ?_
        refine lv_goto (tgt := 113) hx hb dX_stepForward_109 (by decide) ?_
        exact gr_z hx hb hr hlocks (Or.inr rfl) hK hP hD hS hw (Nat.le_of_ble_eq_true rfl) (Nat.le_of_ble_eq_true rfl) dX_stepForward_113
  have hw := hw.2 c12
  by_cases c18 : k5 = 2
  · have hw := hw.1 c18
    refine lv_tableIn (off := 97) (tgt := 114) hx hb dX_stepForward_17 (by rw [c18]; decide) (by rw [c18]; decide) (by rw [c18]; rfl) (by decide) ?_
    refine lv_iload_n hx hb dX_stepForward_114 rfl (lv_at hl 0 rfl) ?_
    refine lv_if_eq (tgt := 135) hx hb dX_stepForward_115 (by decide) (fun c19 => ?_) (fun c19 => ?_)
    · have hw := hw.1 c19
      refine lv_iconst (v := 0) hx hb dX_stepForward_135 (by decide) ?_
      exact gr_z hx hb hr hlocks (Or.inl rfl) hK hP hD hS hw (Nat.le_of_ble_eq_true rfl) (Nat.le_of_ble_eq_true rfl) dX_stepForward_136
    · have hw := hw.2 c19
      refine lv_aload_n hx hb dX_stepForward_118 rfl (lv_at hl 1 rfl) ?_
      refine va_get (ci := 1) (v := .ref (a 15)) (C := RX9) (T := TX9) (N := 20) hx hb hts iX9 hown hK hP 0 (XWc_0 cI cL cZ h a S2) rfl 17 (by decide) (hto (.fieldLink RX9 53 "PieceTrace" "spot" "LPieceTrace$Place;") (by decide +kernel)) (fun _ h9 => h9) rfl dX_stepForward_119 ?_
      refine lv_aload_n hx hb dX_stepForward_122 rfl (lv_at hl 1 rfl) ?_
      refine va_get (ci := 1) (v := .ref (a 7)) (C := RX9) (T := TX9) (N := 20) hx hb hts iX9 hown hK hP 0 (XWc_0 cI cL cZ h a S2) rfl 7 (by decide) (hto (.fieldLink RX9 31 "PieceTrace" "seams" "[I") (by decide +kernel)) (fun _ h9 => h9) rfl dX_stepForward_123 ?_
      refine lv_iload_n hx hb dX_stepForward_126 rfl (lv_at hl 3 rfl) ?_
      obtain ⟨hi20, hw⟩ := hw
      refine va_iald (f := (xSm S2)) hx hb hK hP 8 0 (XWc_8 cI cL cZ h a S2) rfl hi20 dX_stepForward_127 ?_
      refine lv_i2l (v := (xSm S2 p1.toNatClampNeg).toInt64) hx hb dX_stepForward_128 rfl ?_
      refine gk_z (wr := []) (wc := XW cI cL cZ h a S2) (wfc := XW cI cL cZ h a) hP hD hS hA (va_runVN (As := [.long ((xSm S2 p1.toNatClampNeg).toInt64)]) (rest := []) C (c_P_isBelow l hl9 D cI cL cZ h a _ ((xSm S2 p1.toNatClampNeg).toInt64) S2 hw H.size) ⟨va_cnB 1 hts (gGI kP_isBelow) rfl rfl rfl (hG.1 (.methodLinkNest RX9 194 yP_isBelow "PieceTrace") (by decide +kernel)) (hto (.initialized RP9) (by decide +kernel)) (by decide +kernel) ⟨Nat.le_of_ble_eq_true rfl, Nat.le_of_ble_eq_true rfl⟩, (hto (.instanceMethod yP_isBelow) (by decide +kernel)), (hto (.selects RP9 yP_isBelow yP_isBelow) (by decide +kernel))⟩ (g_preV (wr := []) (wc := XW cI cL cZ h a S2) (ci := 0) hK hG hA hP hD hS rfl (XWc_16 cI cL cZ h a S2) rfl) rfl rfl hl.1 rfl (lv_room (Nat.le_of_ble_eq_true rfl)) dX_stepForward_129 ⟨Nat.le_of_ble_eq_true rfl, Nat.le_of_ble_eq_true rfl⟩) (fun r22 S21 hbr22 H locs hw hP hD hS => ?_)
      have hP : va_P D vwCl (XW cI cL cZ h a S21) H := hP
      have hD : va_D A (XW cI cL cZ h a S21) := hD
      refine lv_if_eq (tgt := 137) hx hb dX_stepForward_132 (by decide) (fun c23 => ?_) (fun c23 => ?_)
      · have hw := hw.1 c23
        refine lv_aload_n hx hb dX_stepForward_137 rfl (lv_at hl 1 rfl) ?_
        refine va_get (ci := 1) (v := .ref (a 15)) (C := RX9) (T := TX9) (N := 20) hx hb hts iX9 hown hK hP 0 (XWc_0 cI cL cZ h a S21) rfl 17 (by decide) (hto (.fieldLink RX9 53 "PieceTrace" "spot" "LPieceTrace$Place;") (by decide +kernel)) (fun _ h9 => h9) rfl dX_stepForward_138 ?_
        refine lv_aload_n hx hb dX_stepForward_141 rfl (lv_at hl 1 rfl) ?_
        refine va_get (ci := 1) (v := .ref (a 7)) (C := RX9) (T := TX9) (N := 20) hx hb hts iX9 hown hK hP 0 (XWc_0 cI cL cZ h a S21) rfl 7 (by decide) (hto (.fieldLink RX9 31 "PieceTrace" "seams" "[I") (by decide +kernel)) (fun _ h9 => h9) rfl dX_stepForward_142 ?_
        refine lv_iload_n hx hb dX_stepForward_145 rfl (lv_at hl 3 rfl) ?_
        obtain ⟨hi24, hw⟩ := hw
        refine va_iald (f := (xSm S21)) hx hb hK hP 8 0 (XWc_8 cI cL cZ h a S21) rfl hi24 dX_stepForward_146 ?_
        refine lv_ineg hx hb dX_stepForward_147 ?_
        refine lv_i2l (v := (-(xSm S21 p1.toNatClampNeg)).toInt64) hx hb dX_stepForward_148 rfl ?_
        refine gk_v (wr := []) (wc := XW cI cL cZ h a S21) (wfc := XW cI cL cZ h a) hP hD hS hA (va_runVN (As := [.long ((-(xSm S21 p1.toNatClampNeg)).toInt64)]) (rest := []) C (c_P_move l hl9 D cI cL cZ h a _ ((-(xSm S21 p1.toNatClampNeg)).toInt64) S21 hw H.size) ⟨va_cnB 1 hts (gGI kP_move) rfl rfl rfl (hG.1 (.methodLinkNest RX9 190 yP_move "PieceTrace") (by decide +kernel)) (hto (.initialized RP9) (by decide +kernel)) (by decide +kernel) ⟨Nat.le_of_ble_eq_true rfl, Nat.le_of_ble_eq_true rfl⟩, (hto (.instanceMethod yP_move) (by decide +kernel)), (hto (.selects RP9 yP_move yP_move) (by decide +kernel))⟩ (g_preV (wr := []) (wc := XW cI cL cZ h a S21) (ci := 0) hK hG hA hP hD hS rfl (XWc_16 cI cL cZ h a S21) rfl) rfl rfl hl.1 rfl (lv_room (Nat.le_of_ble_eq_true rfl)) dX_stepForward_149 ⟨Nat.le_of_ble_eq_true rfl, Nat.le_of_ble_eq_true rfl⟩) (fun  S25 H locs hw hP hD hS => ?_)
        have hP : va_P D vwCl (XW cI cL cZ h a S25) H := hP
        have hD : va_D A (XW cI cL cZ h a S25) := hD
        refine lv_iconst (v := 1) hx hb dX_stepForward_152 (by decide) ?_
        exact gr_z hx hb hr hlocks (Or.inr rfl) hK hP hD hS hw (Nat.le_of_ble_eq_true rfl) (Nat.le_of_ble_eq_true rfl) dX_stepForward_153
      · have hw := hw.2 c23
        refine lv_iconst (v := 0) hx hb dX_stepForward_135 (by decide) ?_
        exact gr_z hx hb hr hlocks (Or.inl rfl) hK hP hD hS hw (Nat.le_of_ble_eq_true rfl) (Nat.le_of_ble_eq_true rfl) dX_stepForward_136
  have hw := hw.2 c18
  by_cases c26 : k5 = 3
  · have hw := hw.1 c26
    refine lv_tableIn (off := 137) (tgt := 154) hx hb dX_stepForward_17 (by rw [c26]; decide) (by rw [c26]; decide) (by rw [c26]; rfl) (by decide) ?_
    refine lv_iload_n hx hb dX_stepForward_154 rfl (lv_at hl 0 rfl) ?_
    refine lv_if_ne (tgt := 171) hx hb dX_stepForward_155 (by decide) (fun c27 => ?_) (fun c27 => ?_)
    · have hw := hw.2 c27
      refine lv_iload_n hx hb dX_stepForward_171 rfl (lv_at hl 0 rfl) ?_
      exact gr_z hx hb hr hlocks hbr3 hK hP hD hS hw (Nat.le_of_ble_eq_true rfl) (Nat.le_of_ble_eq_true rfl) dX_stepForward_172
    · have hw := hw.1 c27
      refine lv_aload_n hx hb dX_stepForward_158 rfl (lv_at hl 1 rfl) ?_
      refine lv_aload_n hx hb dX_stepForward_159 rfl (lv_at hl 1 rfl) ?_
      refine va_get (ci := 1) (v := .ref (a 5)) (C := RX9) (T := TX9) (N := 20) hx hb hts iX9 hown hK hP 0 (XWc_0 cI cL cZ h a S2) rfl 5 (by decide) (hto (.fieldLink RX9 25 "PieceTrace" "seconds" "[I") (by decide +kernel)) (fun _ h9 => h9) rfl dX_stepForward_160 ?_
      refine lv_iload_n hx hb dX_stepForward_163 rfl (lv_at hl 3 rfl) ?_
      obtain ⟨hi28, hw⟩ := hw
      refine va_iald (f := (xSe S2)) hx hb hK hP 6 0 (XWc_6 cI cL cZ h a S2) rfl hi28 dX_stepForward_164 ?_
      refine gk_z (wr := []) (wc := XW cI cL cZ h a S2) (wfc := XW cI cL cZ h a) hP hD hS hA (va_runV (As := [.int (xSe S2 p1.toNatClampNeg)]) (rest := []) C (c_X_takeFound l hl9 D cI cL cZ h a _ (xSe S2 p1.toNatClampNeg) S2 hw H.size) (cwV 1 hts (gGV (by decide +kernel) kX_takeFound) rfl rfl rfl (by decide +kernel) ⟨Nat.le_of_ble_eq_true rfl, Nat.le_of_ble_eq_true rfl⟩) (g_preV (wr := []) (wc := XW cI cL cZ h a S2) (ci := 1) hK hG hA hP hD hS rfl (XWc_0 cI cL cZ h a S2) rfl) rfl rfl hl.1 rfl (lv_room (Nat.le_of_ble_eq_true rfl)) dX_stepForward_165 ⟨Nat.le_of_ble_eq_true rfl, Nat.le_of_ble_eq_true rfl⟩) (fun r30 S29 hbr30 H locs hw hP hD hS => ?_)
      have hP : va_P D vwCl (XW cI cL cZ h a S29) H := hP
      have hD : va_D A (XW cI cL cZ h a S29) := hD
      refine lv_if_ne (tgt := 173) hx hb dX_stepForward_168 (by decide) (fun c31 => ?_) (fun c31 => ?_)
      · have hw := hw.2 c31
        refine lv_aload_n hx hb dX_stepForward_173 rfl (lv_at hl 1 rfl) ?_
        refine va_get (ci := 1) (v := .ref (a 15)) (C := RX9) (T := TX9) (N := 20) hx hb hts iX9 hown hK hP 0 (XWc_0 cI cL cZ h a S29) rfl 17 (by decide) (hto (.fieldLink RX9 53 "PieceTrace" "spot" "LPieceTrace$Place;") (by decide +kernel)) (fun _ h9 => h9) rfl dX_stepForward_174 ?_
        refine lv_aload_n hx hb dX_stepForward_177 rfl (lv_at hl 1 rfl) ?_
        refine va_get (ci := 1) (v := .ref (a 7)) (C := RX9) (T := TX9) (N := 20) hx hb hts iX9 hown hK hP 0 (XWc_0 cI cL cZ h a S29) rfl 7 (by decide) (hto (.fieldLink RX9 31 "PieceTrace" "seams" "[I") (by decide +kernel)) (fun _ h9 => h9) rfl dX_stepForward_178 ?_
        refine lv_iload_n hx hb dX_stepForward_181 rfl (lv_at hl 3 rfl) ?_
        obtain ⟨hi32, hw⟩ := hw
        refine va_iald (f := (xSm S29)) hx hb hK hP 8 0 (XWc_8 cI cL cZ h a S29) rfl hi32 dX_stepForward_182 ?_
        refine lv_i2l (v := (xSm S29 p1.toNatClampNeg).toInt64) hx hb dX_stepForward_183 rfl ?_
        refine gk_v (wr := []) (wc := XW cI cL cZ h a S29) (wfc := XW cI cL cZ h a) hP hD hS hA (va_runVN (As := [.long ((xSm S29 p1.toNatClampNeg).toInt64)]) (rest := []) C (c_P_move l hl9 D cI cL cZ h a _ ((xSm S29 p1.toNatClampNeg).toInt64) S29 hw H.size) ⟨va_cnB 1 hts (gGI kP_move) rfl rfl rfl (hG.1 (.methodLinkNest RX9 190 yP_move "PieceTrace") (by decide +kernel)) (hto (.initialized RP9) (by decide +kernel)) (by decide +kernel) ⟨Nat.le_of_ble_eq_true rfl, Nat.le_of_ble_eq_true rfl⟩, (hto (.instanceMethod yP_move) (by decide +kernel)), (hto (.selects RP9 yP_move yP_move) (by decide +kernel))⟩ (g_preV (wr := []) (wc := XW cI cL cZ h a S29) (ci := 0) hK hG hA hP hD hS rfl (XWc_16 cI cL cZ h a S29) rfl) rfl rfl hl.1 rfl (lv_room (Nat.le_of_ble_eq_true rfl)) dX_stepForward_184 ⟨Nat.le_of_ble_eq_true rfl, Nat.le_of_ble_eq_true rfl⟩) (fun  S33 H locs hw hP hD hS => ?_)
        have hP : va_P D vwCl (XW cI cL cZ h a S33) H := hP
        have hD : va_D A (XW cI cL cZ h a S33) := hD
        refine lv_iconst (v := 1) hx hb dX_stepForward_187 (by decide) ?_
        exact gr_z hx hb hr hlocks (Or.inr rfl) hK hP hD hS hw (Nat.le_of_ble_eq_true rfl) (Nat.le_of_ble_eq_true rfl) dX_stepForward_188
      · have hw := hw.1 c31
        refine lv_iload_n hx hb dX_stepForward_171 rfl (lv_at hl 0 rfl) ?_
        exact gr_z hx hb hr hlocks hbr3 hK hP hD hS hw (Nat.le_of_ble_eq_true rfl) (Nat.le_of_ble_eq_true rfl) dX_stepForward_172
  have hw := hw.2 c26
  by_cases c34 : k5 = 4
  · have hw := hw.1 c34
    refine lv_tableIn (off := 172) (tgt := 189) hx hb dX_stepForward_17 (by rw [c34]; decide) (by rw [c34]; decide) (by rw [c34]; rfl) (by decide) ?_
    refine lv_iload_n hx hb dX_stepForward_189 rfl (lv_at hl 0 rfl) ?_
    refine lv_if_ne (tgt := 195) hx hb dX_stepForward_190 (by decide) (fun c35 => ?_) (fun c35 => ?_)
    · have hw := hw.2 c35
      refine lv_aload_n hx hb dX_stepForward_195 rfl (lv_at hl 1 rfl) ?_
      refine va_get (ci := 1) (v := .ref (a 15)) (C := RX9) (T := TX9) (N := 20) hx hb hts iX9 hown hK hP 0 (XWc_0 cI cL cZ h a S2) rfl 17 (by decide) (hto (.fieldLink RX9 53 "PieceTrace" "spot" "LPieceTrace$Place;") (by decide +kernel)) (fun _ h9 => h9) rfl dX_stepForward_196 ?_
      refine lv_aload_n hx hb dX_stepForward_199 rfl (lv_at hl 1 rfl) ?_
      refine va_get (ci := 1) (v := .ref (a 8)) (C := RX9) (T := TX9) (N := 20) hx hb hts iX9 hown hK hP 0 (XWc_0 cI cL cZ h a S2) rfl 8 (by decide) (hto (.fieldLink RX9 34 "PieceTrace" "ratioUppers" "[I") (by decide +kernel)) (fun _ h9 => h9) rfl dX_stepForward_200 ?_
      refine lv_iload_n hx hb dX_stepForward_203 rfl (lv_at hl 3 rfl) ?_
      obtain ⟨hi36, hw⟩ := hw
      refine va_iald (f := (xRU S2)) hx hb hK hP 9 0 (XWc_9 cI cL cZ h a S2) rfl hi36 dX_stepForward_204 ?_
      refine lv_i2l (v := (xRU S2 p1.toNatClampNeg).toInt64) hx hb dX_stepForward_205 rfl ?_
      refine lv_aload_n hx hb dX_stepForward_206 rfl (lv_at hl 1 rfl) ?_
      refine va_get (ci := 1) (v := .ref (a 9)) (C := RX9) (T := TX9) (N := 20) hx hb hts iX9 hown hK hP 0 (XWc_0 cI cL cZ h a S2) rfl 9 (by decide) (hto (.fieldLink RX9 37 "PieceTrace" "ratioLowers" "[I") (by decide +kernel)) (fun _ h9 => h9) rfl dX_stepForward_207 ?_
      refine lv_iload_n hx hb dX_stepForward_210 rfl (lv_at hl 3 rfl) ?_
      obtain ⟨hi37, hw⟩ := hw
      refine va_iald (f := (xRL S2)) hx hb hK hP 10 0 (XWc_10 cI cL cZ h a S2) rfl hi37 dX_stepForward_211 ?_
      refine lv_i2l (v := (xRL S2 p1.toNatClampNeg).toInt64) hx hb dX_stepForward_212 rfl ?_
      refine gk_v (wr := []) (wc := XW cI cL cZ h a S2) (wfc := XW cI cL cZ h a) hP hD hS hA (va_runVN (As := [.long ((xRU S2 p1.toNatClampNeg).toInt64), .long ((xRL S2 p1.toNatClampNeg).toInt64)]) (rest := []) C (c_P_stretch l hl9 D cI cL cZ h a _ ((xRU S2 p1.toNatClampNeg).toInt64) ((xRL S2 p1.toNatClampNeg).toInt64) S2 hw H.size) ⟨va_cnB 2 hts (gGI kP_stretch) rfl rfl rfl (hG.1 (.methodLinkNest RX9 198 yP_stretch "PieceTrace") (by decide +kernel)) (hto (.initialized RP9) (by decide +kernel)) (by decide +kernel) ⟨Nat.le_of_ble_eq_true rfl, Nat.le_of_ble_eq_true rfl⟩, (hto (.instanceMethod yP_stretch) (by decide +kernel)), (hto (.selects RP9 yP_stretch yP_stretch) (by decide +kernel))⟩ (g_preV (wr := []) (wc := XW cI cL cZ h a S2) (ci := 0) hK hG hA hP hD hS rfl (XWc_16 cI cL cZ h a S2) rfl) rfl rfl hl.1 rfl (lv_room (Nat.le_of_ble_eq_true rfl)) dX_stepForward_213 ⟨Nat.le_of_ble_eq_true rfl, Nat.le_of_ble_eq_true rfl⟩) (fun  S38 H locs hw hP hD hS => ?_)
      have hP : va_P D vwCl (XW cI cL cZ h a S38) H := hP
      have hD : va_D A (XW cI cL cZ h a S38) := hD
      refine lv_aload_n hx hb dX_stepForward_216 rfl (lv_at hl 1 rfl) ?_
      refine va_get (ci := 1) (v := .ref (a 15)) (C := RX9) (T := TX9) (N := 20) hx hb hts iX9 hown hK hP 0 (XWc_0 cI cL cZ h a S38) rfl 17 (by decide) (hto (.fieldLink RX9 53 "PieceTrace" "spot" "LPieceTrace$Place;") (by decide +kernel)) (fun _ h9 => h9) rfl dX_stepForward_217 ?_
      refine lv_aload_n hx hb dX_stepForward_220 rfl (lv_at hl 1 rfl) ?_
      refine va_get (ci := 1) (v := .ref (a 2)) (C := RX9) (T := TX9) (N := 20) hx hb hts iX9 hown hK hP 0 (XWc_0 cI cL cZ h a S38) rfl 2 (by decide) (hto (.fieldLink RX9 16 "PieceTrace" "lengths" "[I") (by decide +kernel)) (fun _ h9 => h9) rfl dX_stepForward_221 ?_
      refine lv_iload_n hx hb dX_stepForward_224 rfl (lv_at hl 3 rfl) ?_
      obtain ⟨hi39, hw⟩ := hw
      refine va_iald (f := (xLe S38)) hx hb hK hP 3 0 (XWc_3 cI cL cZ h a S38) rfl hi39 dX_stepForward_225 ?_
      refine lv_i2l (v := (xLe S38 p1.toNatClampNeg).toInt64) hx hb dX_stepForward_226 rfl ?_
      refine gk_z (wr := []) (wc := XW cI cL cZ h a S38) (wfc := XW cI cL cZ h a) hP hD hS hA (va_runVN (As := [.long ((xLe S38 p1.toNatClampNeg).toInt64)]) (rest := []) C (c_P_isBelow l hl9 D cI cL cZ h a _ ((xLe S38 p1.toNatClampNeg).toInt64) S38 hw H.size) ⟨va_cnB 1 hts (gGI kP_isBelow) rfl rfl rfl (hG.1 (.methodLinkNest RX9 194 yP_isBelow "PieceTrace") (by decide +kernel)) (hto (.initialized RP9) (by decide +kernel)) (by decide +kernel) ⟨Nat.le_of_ble_eq_true rfl, Nat.le_of_ble_eq_true rfl⟩, (hto (.instanceMethod yP_isBelow) (by decide +kernel)), (hto (.selects RP9 yP_isBelow yP_isBelow) (by decide +kernel))⟩ (g_preV (wr := []) (wc := XW cI cL cZ h a S38) (ci := 0) hK hG hA hP hD hS rfl (XWc_16 cI cL cZ h a S38) rfl) rfl rfl hl.1 rfl (lv_room (Nat.le_of_ble_eq_true rfl)) dX_stepForward_227 ⟨Nat.le_of_ble_eq_true rfl, Nat.le_of_ble_eq_true rfl⟩) (fun r41 S40 hbr41 H locs hw hP hD hS => ?_)
      have hP : va_P D vwCl (XW cI cL cZ h a S40) H := hP
      have hD : va_D A (XW cI cL cZ h a S40) := hD
      exact gr_z hx hb hr hlocks hbr41 hK hP hD hS hw (Nat.le_of_ble_eq_true rfl) (Nat.le_of_ble_eq_true rfl) dX_stepForward_230
    · have hw := hw.1 c35
      refine lv_iconst (v := 0) hx hb dX_stepForward_193 (by decide) ?_
      exact gr_z hx hb hr hlocks (Or.inl rfl) hK hP hD hS hw (Nat.le_of_ble_eq_true rfl) (Nat.le_of_ble_eq_true rfl) dX_stepForward_194
  have hw := hw.2 c34
  have nc6 := lv_neT (a := 0) c6 (by decide)
  have nc12 := lv_neT (a := 1) c12 (by decide)
  have nc18 := lv_neT (a := 2) c18 (by decide)
  have nc26 := lv_neT (a := 3) c26 (by decide)
  have nc34 := lv_neT (a := 4) c34 (by decide)
  refine lv_tableOut (tgt := 231) hx hb dX_stepForward_17 (by omega) (by decide) ?_
  refine lv_iload_n hx hb dX_stepForward_231 rfl (lv_at hl 0 rfl) ?_
  exact gr_z hx hb hr hlocks hbr3 hK hP hD hS hw (Nat.le_of_ble_eq_true rfl) (Nat.le_of_ble_eq_true rfl) dX_stepForward_232
def wpL_X_follow_2 (post : XSt → Prop) (p0 : Int32) : Nat → XSt → Int32 → Prop
  | 0 => fun _ _ => False
  | n + 1 => fun S u2 => (((xpc S) ≤ u2 → (post S)) ∧ (¬ (xpc S) ≤ u2 → (wp_X_stepForward (fun r3 S2 => ((r3 = 0 → (vp_in u2 40 ∧ (∀ S6 : XSt, S6 = xuFU S2 u2 0 → (vp_in u2 40 ∧ (∀ S8 : XSt, S8 = xuFL S6 u2 0 → (∀ v2_9 : Int32, v2_9 = u2 + 1 → (wpL_X_follow_2 post p0 n S8 v2_9))))))) ∧ (¬ r3 = 0 → (vp_in u2 40 ∧ (∀ S11 : XSt, S11 = xuFU S2 u2 (xup S2) → (vp_in u2 40 ∧ (∀ S13 : XSt, S13 = xuFL S11 u2 (xlo S11) → (∀ v2_14 : Int32, v2_14 = u2 + 1 → (wpL_X_follow_2 post p0 n S13 v2_14))))))))) p0 u2 S)))
def wp_X_follow (post : XSt → Prop) (p0 : Int32) (S : XSt) : Prop := (∃ n : Nat, wpL_X_follow_2 post p0 n S 0)
set_option maxHeartbeats 4000000 in
set_option maxRecDepth 100000 in
theorem c_X_follow (l : Launch) (hl9 : l.stackTraces = false) (D : va_G) (cI cL cZ : ClassId) (h : Nat) (a : Nat → Nat) (post : XSt → Prop) (p0 : Int32) (S : XSt) (hw : wp_X_follow post p0 S) : gMv l yX_follow wsX_follow ({ frames := 3, cells := 0, slots := 0, locals := 79 }) D [(cI, .int), (cL, .long), (cZ, .boolean)] [.ref h, .int p0] (XW cI cL cZ h a S) (XW cI cL cZ h a) post := by
  refine g_ofMv (cc := cX_follow) (maxL := 4) (ret := none) (own := RX9) (by decide) rfl rfl (Nat.le_of_ble_eq_true rfl) ?_
  intro p e s m below meth c A H locs ls C hr hlocks hK hG hA hP hD hS hl
  obtain ⟨hx, hb, hml, hown, hts⟩ := id C
  have hts := fun w (h9 : w ∈ gW) => hts w (List.mem_cons_of_mem _ h9)
  have hto := fun w (h9 : w ∈ gWo) => hts w (gWo_in w h9)
  have hl : lv_has ls 4 [(0, .ref h), (1, .int p0)] := hl
  dsimp only [wp_X_follow] at hw
  refine lv_iconst (v := 0) hx hb dX_follow_0 (by decide) ?_
  refine lv_istore_n (lv' := [(2, .int 0), (0, .ref h), (1, .int p0)]) hx hb dX_follow_1 rfl hl (by decide) rfl (fun ls hl => ?_)
  obtain ⟨n, hw⟩ := hw
  have hL : ∀ (n : Nat) (S : XSt) (u2 : Int32) (H : Heap) (locs : List Loc) (ls : Array Slot), wpL_X_follow_2 post p0 n S u2 → va_P D vwCl (XW cI cL cZ h a S) H → va_D A (XW cI cL cZ h a S) → va_S A s.heap H locs → lv_has ls 4 [(2, .int u2), (0, .ref h), (1, .int p0)] → W p l e (headSpec wsX_follow { frames := 3, cells := 0, slots := 0, locals := 79 }).room s m ([.ref h, .int p0] : List Value).toArray below meth c H locs 0 0 (MQ below (gQv D [(cI, .int), (cL, .long), (cZ, .boolean)] (XW cI cL cZ h a) post A) ([.ref h, .int p0] : List Value).toArray s 0 0 A) (F0 m 2 ls []) := by
    intro n
    induction n with
    | zero => intro S u2 H locs ls hw; exact hw.elim
    | succ n ih =>
      intro S u2 H locs ls hw hP hD hS hl
      dsimp only [wpL_X_follow_2] at hw
      refine lv_iload_n hx hb dX_follow_2 rfl (lv_at hl 0 rfl) ?_
      refine lv_aload_n hx hb dX_follow_3 rfl (lv_at hl 1 rfl) ?_
      refine va_get (ci := 1) (v := .int (xpc S)) (C := RX9) (T := TX9) (N := 20) hx hb hts iX9 hown hK hP 0 (XWc_0 cI cL cZ h a S) rfl 10 (by decide) (hto (.fieldLink RX9 157 "PieceTrace" "pieceCount" "I") (by decide +kernel)) (fun _ h9 => h9) rfl dX_follow_4 ?_
      refine lv_icmp_ge (tgt := 65) hx hb dX_follow_7 (by decide) (fun c1 => ?_) (fun c1 => ?_)
      · have hw := hw.1 c1
        exact gr_v hx hb hr hlocks hK hP hD hS hw (Nat.le_of_ble_eq_true rfl) (Nat.le_of_ble_eq_true rfl) dX_follow_65
      · have hw := hw.2 c1
        refine lv_aload_n hx hb dX_follow_10 rfl (lv_at hl 1 rfl) ?_
        refine lv_iload_n hx hb dX_follow_11 rfl (lv_at hl 2 rfl) ?_
        refine lv_iload_n hx hb dX_follow_12 rfl (lv_at hl 0 rfl) ?_
        refine gk_z (wr := []) (wc := XW cI cL cZ h a S) (wfc := XW cI cL cZ h a) hP hD hS hA (va_runV (As := [.int p0, .int u2]) (rest := []) C (c_X_stepForward l hl9 D cI cL cZ h a _ p0 u2 S hw H.size) (cwV 2 hts (gGV (by decide +kernel) kX_stepForward) rfl rfl rfl (by decide +kernel) ⟨Nat.le_of_ble_eq_true rfl, Nat.le_of_ble_eq_true rfl⟩) (g_preV (wr := []) (wc := XW cI cL cZ h a S) (ci := 1) hK hG hA hP hD hS rfl (XWc_0 cI cL cZ h a S) rfl) rfl rfl hl.1 rfl (lv_room (Nat.le_of_ble_eq_true rfl)) dX_follow_13 ⟨Nat.le_of_ble_eq_true rfl, Nat.le_of_ble_eq_true rfl⟩) (fun r3 S2 hbr3 H locs hw hP hD hS => ?_)
        have hP : va_P D vwCl (XW cI cL cZ h a S2) H := hP
        have hD : va_D A (XW cI cL cZ h a S2) := hD
        refine lv_istore_n (lv' := [(3, .int r3), (2, .int u2), (0, .ref h), (1, .int p0)]) hx hb dX_follow_16 rfl hl (by decide) rfl (fun ls hl => ?_)
        refine lv_aload_n hx hb dX_follow_17 rfl (lv_at hl 2 rfl) ?_
        refine va_get (ci := 1) (v := .ref (a 13)) (C := RX9) (T := TX9) (N := 20) hx hb hts iX9 hown hK hP 0 (XWc_0 cI cL cZ h a S2) rfl 18 (by decide) (hto (.fieldLink RX9 57 "PieceTrace" "foundUppers" "[J") (by decide +kernel)) (fun _ h9 => h9) rfl dX_follow_18 ?_
        refine lv_iload_n hx hb dX_follow_21 rfl (lv_at hl 1 rfl) ?_
        refine lv_iload_n hx hb dX_follow_22 rfl (lv_at hl 0 rfl) ?_
        refine lv_if_eq (tgt := 36) hx hb dX_follow_23 (by decide) (fun c4 => ?_) (fun c4 => ?_)
        · have hw := hw.1 c4
          refine lv_lconst (v := 0) hx hb dX_follow_36 (by decide) ?_
          obtain ⟨hi5, hw⟩ := hw
          refine g_last (wf := XW cI cL cZ h a) (S' := xuFU S2 u2 0) hx hb hK hP hD hS 14 1 (XWc_14 cI cL cZ h a S2) rfl rfl hi5 dX_follow_37 (fun S6 eS6 H locs hP hD hS => ?_)
          have hw := hw S6 eS6
          refine lv_aload_n hx hb dX_follow_38 rfl (lv_at hl 2 rfl) ?_
          refine va_get (ci := 1) (v := .ref (a 14)) (C := RX9) (T := TX9) (N := 20) hx hb hts iX9 hown hK hP 0 (XWc_0 cI cL cZ h a S6) rfl 19 (by decide) (hto (.fieldLink RX9 60 "PieceTrace" "foundLowers" "[J") (by decide +kernel)) (fun _ h9 => h9) rfl dX_follow_39 ?_
          refine lv_iload_n hx hb dX_follow_42 rfl (lv_at hl 1 rfl) ?_
          refine lv_iload_n hx hb dX_follow_43 rfl (lv_at hl 0 rfl) ?_
          refine lv_if_eq (tgt := 57) hx hb dX_follow_44 (by decide) (fun _ => ?_) (fun c9 => absurd c4 c9)
          refine lv_lconst (v := 0) hx hb dX_follow_57 (by decide) ?_
          obtain ⟨hi7, hw⟩ := hw
          refine g_last (wf := XW cI cL cZ h a) (S' := xuFL S6 u2 0) hx hb hK hP hD hS 15 1 (XWc_15 cI cL cZ h a S6) rfl rfl hi7 dX_follow_58 (fun S8 eS8 H locs hP hD hS => ?_)
          have hw := hw S8 eS8
          obtain ⟨v2_9, ev2_9⟩ : ∃ y : Int32, y = u2 + 1 := ⟨_, rfl⟩
          have hw := hw v2_9 ev2_9
          refine lv_iinc (v := v2_9) (lv' := [(2, .int v2_9), (3, .int r3), (0, .ref h), (1, .int p0)]) hx hb dX_follow_59 hl (k := 1) rfl (by rw [ev2_9]; rfl) (by decide) rfl (fun ls hl => ?_)
          refine lv_goto (tgt := 2) hx hb dX_follow_62 (by decide) ?_
          refine W.widen (k := 0) (n := 0) (Nat.le_of_ble_eq_true rfl) (Nat.le_of_ble_eq_true rfl) ?_
          exact ih S8 v2_9 H locs ls hw hP hD hS (lv_sub hl [0, 2, 3] rfl)
        · have hw := hw.2 c4
          refine lv_aload_n hx hb dX_follow_26 rfl (lv_at hl 2 rfl) ?_
          refine va_get (ci := 1) (v := .ref (a 15)) (C := RX9) (T := TX9) (N := 20) hx hb hts iX9 hown hK hP 0 (XWc_0 cI cL cZ h a S2) rfl 17 (by decide) (hto (.fieldLink RX9 53 "PieceTrace" "spot" "LPieceTrace$Place;") (by decide +kernel)) (fun _ h9 => h9) rfl dX_follow_27 ?_
          refine va_getN (ci := 0) (v := .long (xup S2)) (C := RP9) (T := TP9) (N := 2) hx hb hts iP9 hown hK hP 16 (XWc_16 cI cL cZ h a S2) rfl 0 (by decide) (va_Nw.use rfl (hG.1 (.fieldLinkNest RX9 136 "PieceTrace$Place" "upper" "J" "PieceTrace") (by decide +kernel))) (fun _ h9 => h9) rfl dX_follow_30 ?_
          refine lv_goto (tgt := 37) hx hb dX_follow_33 (by decide) ?_
          obtain ⟨hi10, hw⟩ := hw
          refine g_last (wf := XW cI cL cZ h a) (S' := xuFU S2 u2 (xup S2)) hx hb hK hP hD hS 14 1 (XWc_14 cI cL cZ h a S2) rfl rfl hi10 dX_follow_37 (fun S11 eS11 H locs hP hD hS => ?_)
          have hw := hw S11 eS11
          refine lv_aload_n hx hb dX_follow_38 rfl (lv_at hl 2 rfl) ?_
          refine va_get (ci := 1) (v := .ref (a 14)) (C := RX9) (T := TX9) (N := 20) hx hb hts iX9 hown hK hP 0 (XWc_0 cI cL cZ h a S11) rfl 19 (by decide) (hto (.fieldLink RX9 60 "PieceTrace" "foundLowers" "[J") (by decide +kernel)) (fun _ h9 => h9) rfl dX_follow_39 ?_
          refine lv_iload_n hx hb dX_follow_42 rfl (lv_at hl 1 rfl) ?_
          refine lv_iload_n hx hb dX_follow_43 rfl (lv_at hl 0 rfl) ?_
          refine lv_if_eq (tgt := 57) hx hb dX_follow_44 (by decide) (fun c9 => absurd c9 c4) (fun _ => ?_)
          refine lv_aload_n hx hb dX_follow_47 rfl (lv_at hl 2 rfl) ?_
          refine va_get (ci := 1) (v := .ref (a 15)) (C := RX9) (T := TX9) (N := 20) hx hb hts iX9 hown hK hP 0 (XWc_0 cI cL cZ h a S11) rfl 17 (by decide) (hto (.fieldLink RX9 53 "PieceTrace" "spot" "LPieceTrace$Place;") (by decide +kernel)) (fun _ h9 => h9) rfl dX_follow_48 ?_
          refine va_getN (ci := 0) (v := .long (xlo S11)) (C := RP9) (T := TP9) (N := 2) hx hb hts iP9 hown hK hP 16 (XWc_16 cI cL cZ h a S11) rfl 1 (by decide) (va_Nw.use rfl (hG.1 (.fieldLinkNest RX9 139 "PieceTrace$Place" "lower" "J" "PieceTrace") (by decide +kernel))) (fun _ h9 => h9) rfl dX_follow_51 ?_
          refine lv_goto (tgt := 58) hx hb dX_follow_54 (by decide) ?_
          obtain ⟨hi12, hw⟩ := hw
          refine g_last (wf := XW cI cL cZ h a) (S' := xuFL S11 u2 (xlo S11)) hx hb hK hP hD hS 15 1 (XWc_15 cI cL cZ h a S11) rfl rfl hi12 dX_follow_58 (fun S13 eS13 H locs hP hD hS => ?_)
          have hw := hw S13 eS13
          obtain ⟨v2_14, ev2_14⟩ : ∃ y : Int32, y = u2 + 1 := ⟨_, rfl⟩
          have hw := hw v2_14 ev2_14
          refine lv_iinc (v := v2_14) (lv' := [(2, .int v2_14), (3, .int r3), (0, .ref h), (1, .int p0)]) hx hb dX_follow_59 hl (k := 1) rfl (by rw [ev2_14]; rfl) (by decide) rfl (fun ls hl => ?_)
          refine lv_goto (tgt := 2) hx hb dX_follow_62 (by decide) ?_
          refine W.widen (k := 0) (n := 0) (Nat.le_of_ble_eq_true rfl) (Nat.le_of_ble_eq_true rfl) ?_
          exact ih S13 v2_14 H locs ls hw hP hD hS (lv_sub hl [0, 2, 3] rfl)
  refine W.widen (k := 0) (n := 0) (Nat.le_of_ble_eq_true rfl) (Nat.le_of_ble_eq_true rfl) ?_
  exact hL n S 0 H locs ls hw hP hD hS (lv_sub hl [0, 1, 2] rfl)
