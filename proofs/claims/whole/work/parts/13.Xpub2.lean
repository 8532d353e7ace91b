def wp_X_hold (post : XSt → Prop) (xp : String → XSt → Prop) (p0 : Int32) (p1 : Int32) (S : XSt) : Prop := (wp_X_needPiece (fun  S1 => (vp_in p0 40 ∧ ((p1 = 0 → (((xSt S1 p0.toNatClampNeg) = 3 → (vp_in p0 40 ∧ (∀ S6 : XSt, S6 = xuSt S1 p0 0 → (post S6)))) ∧ (¬ (xSt S1 p0.toNatClampNeg) = 3 → (xp "java/lang/IllegalStateException" S1)))) ∧ (¬ p1 = 0 → (((xSt S1 p0.toNatClampNeg) = 0 → (vp_in p0 40 ∧ (∀ S9 : XSt, S9 = xuSt S1 p0 3 → (post S9)))) ∧ (¬ (xSt S1 p0.toNatClampNeg) = 0 → (xp "java/lang/IllegalStateException" S1))))))) xp p0 S)
set_option maxHeartbeats 4000000 in
set_option maxRecDepth 100000 in
theorem c_X_hold (l : Launch) (hl9 : l.stackTraces = false) (D : va_G) (cI cL cZ : ClassId) (h : Nat) (a : Nat → Nat) (post : XSt → Prop) (xp : String → XSt → Prop) (p0 : Int32) (p1 : Int32) (S : XSt) (hw : wp_X_hold post xp p0 p1 S) : gXv l yX_hold wsX_hold ({ frames := 7, cells := 1, slots := 6, locals := 103 }) D [(cI, .int), (cL, .long), (cZ, .boolean)] [.ref h, .int p0, .int p1] (XW cI cL cZ h a S) (XW cI cL cZ h a) post xp := by
  refine g_ofXv (cc := cX_hold) (maxL := 3) (ret := none) (own := RX9) (by decide) rfl rfl (Nat.le_of_ble_eq_true rfl) ?_
  intro p e s m below meth c A H locs ls C hr hlocks hEx hK hG hA hP hD hS hl
  obtain ⟨hx, hb, hml, hown, hts⟩ := id C
  have hts := fun w (h9 : w ∈ gW) => hts w (List.mem_cons_of_mem _ h9)
  have hto := fun w (h9 : w ∈ gWo) => hts w (gWo_in w h9)
  have hl : lv_has ls 3 [(0, .ref h), (1, .int p0), (2, .int p1)] := hl
  dsimp only [wp_X_hold] at hw
  refine lv_aload_n hx hb dX_hold_0 rfl (lv_at hl 0 rfl) ?_
  refine lv_iload_n hx hb dX_hold_1 rfl (lv_at hl 1 rfl) ?_
  refine gk_xv (wr := []) (wc := XW cI cL cZ h a S) (wfc := XW cI cL cZ h a) hP hD hS hA (vx_runV (As := [.int p0]) (rest := []) C (c_X_needPiece l hl9 D cI cL cZ h a _ _ p0 S hw H.size) (cwV 1 hts (gGV (by decide +kernel) kX_needPiece) rfl rfl rfl (by decide +kernel) ⟨Nat.le_of_ble_eq_true rfl, Nat.le_of_ble_eq_true rfl⟩) (g_preV (wr := []) (wc := XW cI cL cZ h a S) (ci := 1) hK hG hA hP hD hS rfl (XWc_0 cI cL cZ h a S) rfl) rfl rfl hl.1 rfl (lv_room (Nat.le_of_ble_eq_true rfl)) dX_hold_2 ⟨Nat.le_of_ble_eq_true rfl, Nat.le_of_ble_eq_true rfl⟩) (fun E S1 ce q9 H locs hw hP hD hS hce hcv hcl => ?_) (fun  S1 H locs hw hP hD hS => ?_)
  · exact gx_out hEx hlocks hce hcv hcl hK hw hP hD hS (Nat.le_of_ble_eq_true rfl) (Nat.le_of_ble_eq_true rfl)
  have hP : va_P D vwCl (XW cI cL cZ h a S1) H := hP
  have hD : va_D A (XW cI cL cZ h a S1) := hD
  refine lv_aload_n hx hb dX_hold_5 rfl (lv_at hl 0 rfl) ?_
  refine va_get (ci := 1) (v := .ref (a 3)) (C := RX9) (T := TX9) (N := 20) hx hb hts iX9 hown hK hP 0 (XWc_0 cI cL cZ h a S1) rfl 3 (by decide) (hto (.fieldLink RX9 19 "PieceTrace" "states" "[I") (by decide +kernel)) (fun _ h9 => h9) rfl dX_hold_6 ?_
  refine lv_iload_n hx hb dX_hold_9 rfl (lv_at hl 1 rfl) ?_
  obtain ⟨hi2, hw⟩ := hw
  refine va_iald (f := (xSt S1)) hx hb hK hP 4 0 (XWc_4 cI cL cZ h a S1) rfl hi2 dX_hold_10 ?_
  refine lv_iload_n hx hb dX_hold_11 rfl (lv_at hl 2 rfl) ?_
  refine lv_if_eq (tgt := 19) hx hb dX_hold_12 (by decide) (fun c3 => ?_) (fun c3 => ?_)
  · have hw := hw.1 c3
    refine lv_iconst (v := 3) hx hb dX_hold_19 (by decide) ?_
    refine lv_icmp_eq (tgt := 33) hx hb dX_hold_20 (by decide) (fun c4 => ?_) (fun c4 => ?_)
    · have hw := hw.1 c4
      refine lv_aload_n hx hb dX_hold_33 rfl (lv_at hl 0 rfl) ?_
      refine va_get (ci := 1) (v := .ref (a 3)) (C := RX9) (T := TX9) (N := 20) hx hb hts iX9 hown hK hP 0 (XWc_0 cI cL cZ h a S1) rfl 3 (by decide) (hto (.fieldLink RX9 19 "PieceTrace" "states" "[I") (by decide +kernel)) (fun _ h9 => h9) rfl dX_hold_34 ?_
      refine lv_iload_n hx hb dX_hold_37 rfl (lv_at hl 1 rfl) ?_
      refine lv_iload_n hx hb dX_hold_38 rfl (lv_at hl 2 rfl) ?_
      refine lv_if_eq (tgt := 46) hx hb dX_hold_39 (by decide) (fun _ => ?_) (fun c9 => absurd c3 c9)
      refine lv_iconst (v := 0) hx hb dX_hold_46 (by decide) ?_
      obtain ⟨hi5, hw⟩ := hw
      refine g_iast (wf := XW cI cL cZ h a) (S' := xuSt S1 p0 0) hx hb hK hP hD hS 4 0 (XWc_4 cI cL cZ h a S1) rfl rfl hi5 dX_hold_47 (fun S6 eS6 H locs hP hD hS => ?_)
      have hw := hw S6 eS6
      exact gx_v hx hb hr hlocks hK hP hD hS hw dX_hold_48
    · have hw := hw.2 c4
      exact g_throw (own := RX9) (cls := "java/lang/IllegalStateException") (text := "the piece is not live, or it is so") hx hb hl9 hown (hto (.classLink RX9 110 "java/lang/IllegalStateException") (by decide +kernel)) (hto (.initialized "java/lang/IllegalStateException") (by decide +kernel)) (hG.2.2.1 (RX9, 112, "the piece is not live, or it is so") (by decide +kernel)) (g_at_ISE hts hG) gF_ISE gN_ gO_ISE_110 hG hK hP hD hS (hl.1.trans hml.symm) dX_hold_23 dX_hold_26 dX_hold_27 dX_hold_29 dX_hold_32 hEx (Nat.le_of_ble_eq_true rfl) (Nat.le_of_ble_eq_true rfl) (Nat.le_of_ble_eq_true rfl) (Nat.le_of_ble_eq_true rfl) hlocks hw (Nat.le_of_ble_eq_true rfl) (Nat.le_of_ble_eq_true rfl)
  · have hw := hw.2 c3
    refine lv_iconst (v := 0) hx hb dX_hold_15 (by decide) ?_
    refine lv_goto (tgt := 20) hx hb dX_hold_16 (by decide) ?_
    refine lv_icmp_eq (tgt := 33) hx hb dX_hold_20 (by decide) (fun c7 => ?_) (fun c7 => ?_)
    · have hw := hw.1 c7
      refine lv_aload_n hx hb dX_hold_33 rfl (lv_at hl 0 rfl) ?_
      refine va_get (ci := 1) (v := .ref (a 3)) (C := RX9) (T := TX9) (N := 20) hx hb hts iX9 hown hK hP 0 (XWc_0 cI cL cZ h a S1) rfl 3 (by decide) (hto (.fieldLink RX9 19 "PieceTrace" "states" "[I") (by decide +kernel)) (fun _ h9 => h9) rfl dX_hold_34 ?_
      refine lv_iload_n hx hb dX_hold_37 rfl (lv_at hl 1 rfl) ?_
      refine lv_iload_n hx hb dX_hold_38 rfl (lv_at hl 2 rfl) ?_
      refine lv_if_eq (tgt := 46) hx hb dX_hold_39 (by decide) (fun c9 => absurd c9 c3) (fun _ => ?_)
      refine lv_iconst (v := 3) hx hb dX_hold_42 (by decide) ?_
      refine lv_goto (tgt := 47) hx hb dX_hold_43 (by decide) ?_
      obtain ⟨hi8, hw⟩ := hw
      refine g_iast (wf := XW cI cL cZ h a) (S' := xuSt S1 p0 3) hx hb hK hP hD hS 4 0 (XWc_4 cI cL cZ h a S1) rfl rfl hi8 dX_hold_47 (fun S9 eS9 H locs hP hD hS => ?_)
      have hw := hw S9 eS9
      exact gx_v hx hb hr hlocks hK hP hD hS hw dX_hold_48
    · have hw := hw.2 c7
      exact g_throw (own := RX9) (cls := "java/lang/IllegalStateException") (text := "the piece is not live, or it is so") hx hb hl9 hown (hto (.classLink RX9 110 "java/lang/IllegalStateException") (by decide +kernel)) (hto (.initialized "java/lang/IllegalStateException") (by decide +kernel)) (hG.2.2.1 (RX9, 112, "the piece is not live, or it is so") (by decide +kernel)) (g_at_ISE hts hG) gF_ISE gN_ gO_ISE_110 hG hK hP hD hS (hl.1.trans hml.symm) dX_hold_23 dX_hold_26 dX_hold_27 dX_hold_29 dX_hold_32 hEx (Nat.le_of_ble_eq_true rfl) (Nat.le_of_ble_eq_true rfl) (Nat.le_of_ble_eq_true rfl) (Nat.le_of_ble_eq_true rfl) hlocks hw (Nat.le_of_ble_eq_true rfl) (Nat.le_of_ble_eq_true rfl)
def wp_X_scrap (post : Int32 → XSt → Prop) (xp : String → XSt → Prop) (p0 : Int32) (S : XSt) : Prop := (wp_X_needPiece (fun  S1 => (wp_X_needFree (fun  S2 => (vp_in p0 40 ∧ (∀ S4 : XSt, S4 = xuSt S2 p0 2 → (vp_in p0 40 ∧ (∀ S6 : XSt, S6 = xshp S4 ((xhp S4) + (xWe S4 p0.toNatClampNeg)) → (post (xhp S6) S6)))))) xp p0 S1)) xp p0 S)
set_option maxHeartbeats 4000000 in
set_option maxRecDepth 100000 in
theorem c_X_scrap (l : Launch) (hl9 : l.stackTraces = false) (D : va_G) (cI cL cZ : ClassId) (h : Nat) (a : Nat → Nat) (post : Int32 → XSt → Prop) (xp : String → XSt → Prop) (p0 : Int32) (S : XSt) (hw : wp_X_scrap post xp p0 S) : gXi l yX_scrap wsX_scrap ({ frames := 7, cells := 1, slots := 6, locals := 103 }) D [(cI, .int), (cL, .long), (cZ, .boolean)] [.ref h, .int p0] (XW cI cL cZ h a S) (XW cI cL cZ h a) post xp := by
  refine g_ofXi (cc := cX_scrap) (maxL := 2) (ret := (some .int)) (own := RX9) (by decide) rfl rfl (Nat.le_of_ble_eq_true rfl) ?_
  intro p e s m below meth c A H locs ls C hr hlocks hEx hK hG hA hP hD hS hl
  obtain ⟨hx, hb, hml, hown, hts⟩ := id C
  have hts := fun w (h9 : w ∈ gW) => hts w (List.mem_cons_of_mem _ h9)
  have hto := fun w (h9 : w ∈ gWo) => hts w (gWo_in w h9)
  have hl : lv_has ls 2 [(0, .ref h), (1, .int p0)] := hl
  dsimp only [wp_X_scrap] at hw
  refine lv_aload_n hx hb dX_scrap_0 rfl (lv_at hl 0 rfl) ?_
  refine lv_iload_n hx hb dX_scrap_1 rfl (lv_at hl 1 rfl) ?_
  refine gk_xv (wr := []) (wc := XW cI cL cZ h a S) (wfc := XW cI cL cZ h a) hP hD hS hA (vx_runV (As := [.int p0]) (rest := []) C (c_X_needPiece l hl9 D cI cL cZ h a _ _ p0 S hw H.size) (cwV 1 hts (gGV (by decide +kernel) kX_needPiece) rfl rfl rfl (by decide +kernel) ⟨Nat.le_of_ble_eq_true rfl, Nat.le_of_ble_eq_true rfl⟩) (g_preV (wr := []) (wc := XW cI cL cZ h a S) (ci := 1) hK hG hA hP hD hS rfl (XWc_0 cI cL cZ h a S) rfl) rfl rfl hl.1 rfl (lv_room (Nat.le_of_ble_eq_true rfl)) dX_scrap_2 ⟨Nat.le_of_ble_eq_true rfl, Nat.le_of_ble_eq_true rfl⟩) (fun E S1 ce q9 H locs hw hP hD hS hce hcv hcl => ?_) (fun  S1 H locs hw hP hD hS => ?_)
  · exact gx_out hEx hlocks hce hcv hcl hK hw hP hD hS (Nat.le_of_ble_eq_true rfl) (Nat.le_of_ble_eq_true rfl)
  have hP : va_P D vwCl (XW cI cL cZ h a S1) H := hP
  have hD : va_D A (XW cI cL cZ h a S1) := hD
  refine lv_aload_n hx hb dX_scrap_5 rfl (lv_at hl 0 rfl) ?_
  refine lv_iload_n hx hb dX_scrap_6 rfl (lv_at hl 1 rfl) ?_
  refine gk_xv (wr := []) (wc := XW cI cL cZ h a S1) (wfc := XW cI cL cZ h a) hP hD hS hA (vx_runV (As := [.int p0]) (rest := []) C (c_X_needFree l hl9 D cI cL cZ h a _ _ p0 S1 hw H.size) (cwV 1 hts (gGV (by decide +kernel) kX_needFree) rfl rfl rfl (by decide +kernel) ⟨Nat.le_of_ble_eq_true rfl, Nat.le_of_ble_eq_true rfl⟩) (g_preV (wr := []) (wc := XW cI cL cZ h a S1) (ci := 1) hK hG hA hP hD hS rfl (XWc_0 cI cL cZ h a S1) rfl) rfl rfl hl.1 rfl (lv_room (Nat.le_of_ble_eq_true rfl)) dX_scrap_7 ⟨Nat.le_of_ble_eq_true rfl, Nat.le_of_ble_eq_true rfl⟩) (fun E S2 ce q9 H locs hw hP hD hS hce hcv hcl => ?_) (fun  S2 H locs hw hP hD hS => ?_)
  · exact gx_out hEx hlocks hce hcv hcl hK hw hP hD hS (Nat.le_of_ble_eq_true rfl) (Nat.le_of_ble_eq_true rfl)
  have hP : va_P D vwCl (XW cI cL cZ h a S2) H := hP
  have hD : va_D A (XW cI cL cZ h a S2) := hD
  refine lv_aload_n hx hb dX_scrap_10 rfl (lv_at hl 0 rfl) ?_
  refine va_get (ci := 1) (v := .ref (a 3)) (C := RX9) (T := TX9) (N := 20) hx hb hts iX9 hown hK hP 0 (XWc_0 cI cL cZ h a S2) rfl 3 (by decide) (hto (.fieldLink RX9 19 "PieceTrace" "states" "[I") (by decide +kernel)) (fun _ h9 => h9) rfl dX_scrap_11 ?_
  refine lv_iload_n hx hb dX_scrap_14 rfl (lv_at hl 1 rfl) ?_
  refine lv_iconst (v := 2) hx hb dX_scrap_15 (by decide) ?_
  obtain ⟨hi3, hw⟩ := hw
  refine g_iast (wf := XW cI cL cZ h a) (S' := xuSt S2 p0 2) hx hb hK hP hD hS 4 0 (XWc_4 cI cL cZ h a S2) rfl rfl hi3 dX_scrap_16 (fun S4 eS4 H locs hP hD hS => ?_)
  have hw := hw S4 eS4
  refine lv_aload_n hx hb dX_scrap_17 rfl (lv_at hl 0 rfl) ?_
  refine lv_dup hx hb dX_scrap_18 rfl ?_
  refine va_get (ci := 1) (v := .int (xhp S4)) (C := RX9) (T := TX9) (N := 20) hx hb hts iX9 hown hK hP 0 (XWc_0 cI cL cZ h a S4) rfl 15 (by decide) (hto (.fieldLink RX9 115 "PieceTrace" "heap" "I") (by decide +kernel)) (fun _ h9 => h9) rfl dX_scrap_19 ?_
  refine lv_aload_n hx hb dX_scrap_22 rfl (lv_at hl 0 rfl) ?_
  refine va_get (ci := 1) (v := .ref (a 1)) (C := RX9) (T := TX9) (N := 20) hx hb hts iX9 hown hK hP 0 (XWc_0 cI cL cZ h a S4) rfl 1 (by decide) (hto (.fieldLink RX9 13 "PieceTrace" "weights" "[I") (by decide +kernel)) (fun _ h9 => h9) rfl dX_scrap_23 ?_
  refine lv_iload_n hx hb dX_scrap_26 rfl (lv_at hl 1 rfl) ?_
  obtain ⟨hi5, hw⟩ := hw
  refine va_iald (f := (xWe S4)) hx hb hK hP 2 0 (XWc_2 cI cL cZ h a S4) rfl hi5 dX_scrap_27 ?_
  refine lv_iadd hx hb dX_scrap_28 ?_
  refine g_put (wf := XW cI cL cZ h a) (S' := xshp S4 ((xhp S4) + (xWe S4 p0.toNatClampNeg))) (ci := 1) (v := .int ((xhp S4) + (xWe S4 p0.toNatClampNeg))) (ty := .int) (C := RX9) (T := TX9) (N := 20) hx hb hts iX9 tyX9 tyX9_ok nmX9 hown hK hP hD hS 0 (XWc_0 cI cL cZ h a S4) rfl 15 (by decide) (hto (.fieldLink RX9 115 "PieceTrace" "heap" "I") (by decide +kernel)) (fun _ h9 => h9) rfl (by decide +kernel) rfl rfl (Nat.le_of_ble_eq_true rfl) rfl dX_scrap_29 (fun S6 eS6 H locs hP hD hS => ?_)
  have hw := hw S6 eS6
  refine lv_aload_n hx hb dX_scrap_32 rfl (lv_at hl 0 rfl) ?_
  refine va_get (ci := 1) (v := .int (xhp S6)) (C := RX9) (T := TX9) (N := 20) hx hb hts iX9 hown hK hP 0 (XWc_0 cI cL cZ h a S6) rfl 15 (by decide) (hto (.fieldLink RX9 115 "PieceTrace" "heap" "I") (by decide +kernel)) (fun _ h9 => h9) rfl dX_scrap_33 ?_
  exact gx_i hx hb hr hlocks hK hP hD hS hw dX_scrap_36
def wp_X_back (post : Int32 → XSt → Prop) (xp : String → XSt → Prop) (p0 : Int32) (p1 : Int32) (S : XSt) : Prop := (wp_X_needWithin (fun  S1 => (wp_X_needWithin (fun  S2 => (wp_X_needRoom (fun  S3 => (∀ v3_4 : Int32, v3_4 = (((xhp S3).toInt64 * p0.toInt64) / 100).toInt32 → ((1 ≤ v3_4 → (∀ S6 : XSt, S6 = xshp S3 ((xhp S3) - v3_4) → (wp_X_addPiece (fun r8 S7 => (post r8 S7)) 0 (-1) v3_4 p1 S6))) ∧ (¬ 1 ≤ v3_4 → (xp "java/lang/UnsupportedOperationException" S3))))) xp 1 S2)) xp p1 1 1000000 S1)) xp p0 1 100 S)
set_option maxHeartbeats 4000000 in
set_option maxRecDepth 100000 in
theorem c_X_back (l : Launch) (hl9 : l.stackTraces = false) (D : va_G) (cI cL cZ : ClassId) (h : Nat) (a : Nat → Nat) (post : Int32 → XSt → Prop) (xp : String → XSt → Prop) (p0 : Int32) (p1 : Int32) (S : XSt) (hw : wp_X_back post xp p0 p1 S) : gXi l yX_back wsX_back ({ frames := 7, cells := 1, slots := 6, locals := 104 }) D [(cI, .int), (cL, .long), (cZ, .boolean)] [.ref h, .int p0, .int p1] (XW cI cL cZ h a S) (XW cI cL cZ h a) post xp := by
  refine g_ofXi (cc := cX_back) (maxL := 4) (ret := (some .int)) (own := RX9) (by decide) rfl rfl (Nat.le_of_ble_eq_true rfl) ?_
  intro p e s m below meth c A H locs ls C hr hlocks hEx hK hG hA hP hD hS hl
  obtain ⟨hx, hb, hml, hown, hts⟩ := id C
  have hts := fun w (h9 : w ∈ gW) => hts w (List.mem_cons_of_mem _ h9)
  have hto := fun w (h9 : w ∈ gWo) => hts w (gWo_in w h9)
  have hl : lv_has ls 4 [(0, .ref h), (1, .int p0), (2, .int p1)] := hl
  dsimp only [wp_X_back] at hw
  refine lv_iload_n hx hb dX_back_0 rfl (lv_at hl 1 rfl) ?_
  refine lv_iconst (v := 1) hx hb dX_back_1 (by decide) ?_
  refine lv_bipush (v := 100) hx hb dX_back_2 (by decide) ?_
  refine gk_xv (wr := []) (wc := XW cI cL cZ h a S) (wfc := XW cI cL cZ h a) hP hD hS hA (vx_runS (As := [.int p0, .int 1, .int 100]) (rest := []) C (c_X_needWithin l hl9 D cI cL cZ h a _ _ p0 1 100 S hw H.size) (va_cwS 3 hts (gGS (by decide +kernel) kX_needWithin) rfl rfl rfl (by decide +kernel) ⟨Nat.le_of_ble_eq_true rfl, Nat.le_of_ble_eq_true rfl⟩) (g_preS (wr := []) (wc := XW cI cL cZ h a S) hK hG hA hP hD hS) rfl rfl hl.1 rfl (lv_room (Nat.le_of_ble_eq_true rfl)) dX_back_4 ⟨Nat.le_of_ble_eq_true rfl, Nat.le_of_ble_eq_true rfl⟩) (fun E S1 ce q9 H locs hw hP hD hS hce hcv hcl => ?_) (fun  S1 H locs hw hP hD hS => ?_)
  · exact gx_out hEx hlocks hce hcv hcl hK hw hP hD hS (Nat.le_of_ble_eq_true rfl) (Nat.le_of_ble_eq_true rfl)
  have hP : va_P D vwCl (XW cI cL cZ h a S1) H := hP
  have hD : va_D A (XW cI cL cZ h a S1) := hD
  refine lv_iload_n hx hb dX_back_7 rfl (lv_at hl 2 rfl) ?_
  refine lv_iconst (v := 1) hx hb dX_back_8 (by decide) ?_
  refine lv_ldc (v := 1000000) hx hb hown (hto (.constant RX9 63 1000000) (by decide +kernel)) dX_back_9 ?_
  refine gk_xv (wr := []) (wc := XW cI cL cZ h a S1) (wfc := XW cI cL cZ h a) hP hD hS hA (vx_runS (As := [.int p1, .int 1, .int 1000000]) (rest := []) C (c_X_needWithin l hl9 D cI cL cZ h a _ _ p1 1 1000000 S1 hw H.size) (va_cwS 3 hts (gGS (by decide +kernel) kX_needWithin) rfl rfl rfl (by decide +kernel) ⟨Nat.le_of_ble_eq_true rfl, Nat.le_of_ble_eq_true rfl⟩) (g_preS (wr := []) (wc := XW cI cL cZ h a S1) hK hG hA hP hD hS) rfl rfl hl.1 rfl (lv_room (Nat.le_of_ble_eq_true rfl)) dX_back_11 ⟨Nat.le_of_ble_eq_true rfl, Nat.le_of_ble_eq_true rfl⟩) (fun E S2 ce q9 H locs hw hP hD hS hce hcv hcl => ?_) (fun  S2 H locs hw hP hD hS => ?_)
  · exact gx_out hEx hlocks hce hcv hcl hK hw hP hD hS (Nat.le_of_ble_eq_true rfl) (Nat.le_of_ble_eq_true rfl)
  have hP : va_P D vwCl (XW cI cL cZ h a S2) H := hP
  have hD : va_D A (XW cI cL cZ h a S2) := hD
  refine lv_aload_n hx hb dX_back_14 rfl (lv_at hl 0 rfl) ?_
  refine lv_iconst (v := 1) hx hb dX_back_15 (by decide) ?_
  refine gk_xv (wr := []) (wc := XW cI cL cZ h a S2) (wfc := XW cI cL cZ h a) hP hD hS hA (vx_runV (As := [.int 1]) (rest := []) C (c_X_needRoom l hl9 D cI cL cZ h a _ _ 1 S2 hw H.size) (cwV 1 hts (gGV (by decide +kernel) kX_needRoom) rfl rfl rfl (by decide +kernel) ⟨Nat.le_of_ble_eq_true rfl, Nat.le_of_ble_eq_true rfl⟩) (g_preV (wr := []) (wc := XW cI cL cZ h a S2) (ci := 1) hK hG hA hP hD hS rfl (XWc_0 cI cL cZ h a S2) rfl) rfl rfl hl.1 rfl (lv_room (Nat.le_of_ble_eq_true rfl)) dX_back_16 ⟨Nat.le_of_ble_eq_true rfl, Nat.le_of_ble_eq_true rfl⟩) (fun E S3 ce q9 H locs hw hP hD hS hce hcv hcl => ?_) (fun  S3 H locs hw hP hD hS => ?_)
  · exact gx_out hEx hlocks hce hcv hcl hK hw hP hD hS (Nat.le_of_ble_eq_true rfl) (Nat.le_of_ble_eq_true rfl)
  have hP : va_P D vwCl (XW cI cL cZ h a S3) H := hP
  have hD : va_D A (XW cI cL cZ h a S3) := hD
  refine lv_aload_n hx hb dX_back_19 rfl (lv_at hl 0 rfl) ?_
  refine va_get (ci := 1) (v := .int (xhp S3)) (C := RX9) (T := TX9) (N := 20) hx hb hts iX9 hown hK hP 0 (XWc_0 cI cL cZ h a S3) rfl 15 (by decide) (hto (.fieldLink RX9 115 "PieceTrace" "heap" "I") (by decide +kernel)) (fun _ h9 => h9) rfl dX_back_20 ?_
  refine lv_i2l (v := (xhp S3).toInt64) hx hb dX_back_23 rfl ?_
  refine lv_iload_n hx hb dX_back_24 rfl (lv_at hl 1 rfl) ?_
  refine lv_i2l (v := p0.toInt64) hx hb dX_back_25 rfl ?_
  refine lv_lmul hx hb dX_back_26 ?_
  refine lv_ldc2 (v := 100) hx hb hown (hto (.constantLong RX9 119 100) (by decide +kernel)) dX_back_27 ?_
  refine lv_ldiv hx hb dX_back_30 (by decide) ?_
  refine lv_l2i (v := (((xhp S3).toInt64 * p0.toInt64) / 100).toInt32) hx hb dX_back_31 rfl ?_
  refine lv_topi (fun v3_4 ev3_4 => ?_)
  have hw := hw v3_4 ev3_4
  refine lv_istore_n (lv' := [(3, .int v3_4), (0, .ref h), (1, .int p0), (2, .int p1)]) hx hb dX_back_32 rfl hl (by decide) rfl (fun ls hl => ?_)
  refine lv_iload_n hx hb dX_back_33 rfl (lv_at hl 0 rfl) ?_
  refine lv_iconst (v := 1) hx hb dX_back_34 (by decide) ?_
  refine lv_icmp_ge (tgt := 48) hx hb dX_back_35 (by decide) (fun c5 => ?_) (fun c5 => ?_)
  · have hw := hw.1 c5
    refine lv_aload_n hx hb dX_back_48 rfl (lv_at hl 1 rfl) ?_
    refine lv_dup hx hb dX_back_49 rfl ?_
    refine va_get (ci := 1) (v := .int (xhp S3)) (C := RX9) (T := TX9) (N := 20) hx hb hts iX9 hown hK hP 0 (XWc_0 cI cL cZ h a S3) rfl 15 (by decide) (hto (.fieldLink RX9 115 "PieceTrace" "heap" "I") (by decide +kernel)) (fun _ h9 => h9) rfl dX_back_50 ?_
    refine lv_iload_n hx hb dX_back_53 rfl (lv_at hl 0 rfl) ?_
    refine lv_isub hx hb dX_back_54 ?_
    refine g_put (wf := XW cI cL cZ h a) (S' := xshp S3 ((xhp S3) - v3_4)) (ci := 1) (v := .int ((xhp S3) - v3_4)) (ty := .int) (C := RX9) (T := TX9) (N := 20) hx hb hts iX9 tyX9 tyX9_ok nmX9 hown hK hP hD hS 0 (XWc_0 cI cL cZ h a S3) rfl 15 (by decide) (hto (.fieldLink RX9 115 "PieceTrace" "heap" "I") (by decide +kernel)) (fun _ h9 => h9) rfl (by decide +kernel) rfl rfl (Nat.le_of_ble_eq_true rfl) rfl dX_back_55 (fun S6 eS6 H locs hP hD hS => ?_)
    have hw := hw S6 eS6
    refine lv_aload_n hx hb dX_back_58 rfl (lv_at hl 1 rfl) ?_
    refine lv_iconst (v := 0) hx hb dX_back_59 (by decide) ?_
    refine lv_iconst (v := -1) hx hb dX_back_60 (by decide) ?_
    refine lv_iload_n hx hb dX_back_61 rfl (lv_at hl 0 rfl) ?_
    refine lv_iload_n hx hb dX_back_62 rfl (lv_at hl 3 rfl) ?_
    refine gk_i (wr := []) (wc := XW cI cL cZ h a S6) (wfc := XW cI cL cZ h a) hP hD hS hA (va_runV (As := [.int 0, .int (-1), .int v3_4, .int p1]) (rest := []) C (c_X_addPiece l hl9 D cI cL cZ h a _ 0 (-1) v3_4 p1 S6 hw H.size) (cwV 4 hts (gGV (by decide +kernel) kX_addPiece) rfl rfl rfl (by decide +kernel) ⟨Nat.le_of_ble_eq_true rfl, Nat.le_of_ble_eq_true rfl⟩) (g_preV (wr := []) (wc := XW cI cL cZ h a S6) (ci := 1) hK hG hA hP hD hS rfl (XWc_0 cI cL cZ h a S6) rfl) rfl rfl hl.1 rfl (lv_room (Nat.le_of_ble_eq_true rfl)) dX_back_63 ⟨Nat.le_of_ble_eq_true rfl, Nat.le_of_ble_eq_true rfl⟩) (fun r8 S7 H locs hw hP hD hS => ?_)
    have hP : va_P D vwCl (XW cI cL cZ h a S7) H := hP
    have hD : va_D A (XW cI cL cZ h a S7) := hD
    exact gx_i hx hb hr hlocks hK hP hD hS hw dX_back_66
  · have hw := hw.2 c5
    exact g_throw (own := RX9) (cls := "java/lang/UnsupportedOperationException") (text := "the share of the heap is less than a gram") hx hb hl9 hown (hto (.classLink RX9 95 "java/lang/UnsupportedOperationException") (by decide +kernel)) (hto (.initialized "java/lang/UnsupportedOperationException") (by decide +kernel)) (hG.2.2.1 (RX9, 121, "the share of the heap is less than a gram") (by decide +kernel)) (g_at_UOE hts hG) gF_UOE gN_ gO_UOE_95 hG hK hP hD hS (hl.1.trans hml.symm) dX_back_38 dX_back_41 dX_back_42 dX_back_44 dX_back_47 hEx (Nat.le_of_ble_eq_true rfl) (Nat.le_of_ble_eq_true rfl) (Nat.le_of_ble_eq_true rfl) (Nat.le_of_ble_eq_true rfl) hlocks hw (Nat.le_of_ble_eq_true rfl) (Nat.le_of_ble_eq_true rfl)
def wp_X_at (post : Int32 → XSt → Prop) (xp : String → XSt → Prop) (p0 : Int32) (p1 : Int32) (S : XSt) : Prop := (wp_X_needPiece (fun  S1 => ((p1 = 0 → (vp_in p0 40 ∧ (post (xWe S1 p0.toNatClampNeg) S1))) ∧ (¬ p1 = 0 → ((p1 = 1 → (vp_in p0 40 ∧ (post (xLe S1 p0.toNatClampNeg) S1))) ∧ (¬ p1 = 1 → ((p1 = 2 → (wp_X_isLive (fun r8 S7 => ((r8 = 0 → (vp_in p0 40 ∧ (post (xSt S7 p0.toNatClampNeg) S7))) ∧ (¬ r8 = 0 → (post 0 S7)))) p0 S1)) ∧ (¬ p1 = 2 → ((p1 = 3 → (vp_in p0 40 ∧ (((xSt S1 p0.toNatClampNeg) = 3 → (post 1 S1)) ∧ (¬ (xSt S1 p0.toNatClampNeg) = 3 → (post 0 S1))))) ∧ (¬ p1 = 3 → ((p1 = 4 → (vp_in p0 40 ∧ (post (xSo S1 p0.toNatClampNeg) S1))) ∧ (¬ p1 = 4 → ((p1 = 5 → (vp_in p0 40 ∧ (post (xSe S1 p0.toNatClampNeg) S1))) ∧ (¬ p1 = 5 → ((p1 = 6 → (vp_in p0 40 ∧ (post (xRo S1 p0.toNatClampNeg) S1))) ∧ (¬ p1 = 6 → (xp "java/lang/IndexOutOfBoundsException" S1)))))))))))))))) xp p0 S)
set_option maxHeartbeats 4000000 in
set_option maxRecDepth 100000 in
theorem c_X_at (l : Launch) (hl9 : l.stackTraces = false) (D : va_G) (cI cL cZ : ClassId) (h : Nat) (a : Nat → Nat) (post : Int32 → XSt → Prop) (xp : String → XSt → Prop) (p0 : Int32) (p1 : Int32) (S : XSt) (hw : wp_X_at post xp p0 p1 S) : gXi l yX_at wsX_at ({ frames := 7, cells := 1, slots := 6, locals := 103 }) D [(cI, .int), (cL, .long), (cZ, .boolean)] [.ref h, .int p0, .int p1] (XW cI cL cZ h a S) (XW cI cL cZ h a) post xp := by
  refine g_ofXi (cc := cX_at) (maxL := 3) (ret := (some .int)) (own := RX9) (by decide) rfl rfl (Nat.le_of_ble_eq_true rfl) ?_
  intro p e s m below meth c A H locs ls C hr hlocks hEx hK hG hA hP hD hS hl
  obtain ⟨hx, hb, hml, hown, hts⟩ := id C
  have hts := fun w (h9 : w ∈ gW) => hts w (List.mem_cons_of_mem _ h9)
  have hto := fun w (h9 : w ∈ gWo) => hts w (gWo_in w h9)
  have hl : lv_has ls 3 [(0, .ref h), (1, .int p0), (2, .int p1)] := hl
  dsimp only [wp_X_at] at hw
  refine lv_aload_n hx hb dX_at_0 rfl (lv_at hl 0 rfl) ?_
  refine lv_iload_n hx hb dX_at_1 rfl (lv_at hl 1 rfl) ?_
  refine gk_xv (wr := []) (wc := XW cI cL cZ h a S) (wfc := XW cI cL cZ h a) hP hD hS hA (vx_runV (As := [.int p0]) (rest := []) C (c_X_needPiece l hl9 D cI cL cZ h a _ _ p0 S hw H.size) (cwV 1 hts (gGV (by decide +kernel) kX_needPiece) rfl rfl rfl (by decide +kernel) ⟨Nat.le_of_ble_eq_true rfl, Nat.le_of_ble_eq_true rfl⟩) (g_preV (wr := []) (wc := XW cI cL cZ h a S) (ci := 1) hK hG hA hP hD hS rfl (XWc_0 cI cL cZ h a S) rfl) rfl rfl hl.1 rfl (lv_room (Nat.le_of_ble_eq_true rfl)) dX_at_2 ⟨Nat.le_of_ble_eq_true rfl, Nat.le_of_ble_eq_true rfl⟩) (fun E S1 ce q9 H locs hw hP hD hS hce hcv hcl => ?_) (fun  S1 H locs hw hP hD hS => ?_)
  · exact gx_out hEx hlocks hce hcv hcl hK hw hP hD hS (Nat.le_of_ble_eq_true rfl) (Nat.le_of_ble_eq_true rfl)
  have hP : va_P D vwCl (XW cI cL cZ h a S1) H := hP
  have hD : va_D A (XW cI cL cZ h a S1) := hD
  refine lv_iload_n hx hb dX_at_5 rfl (lv_at hl 2 rfl) ?_
  by_cases c2 : p1 = 0
  · have hw := hw.1 c2
    refine lv_tableIn (off := 42) (tgt := 48) hx hb dX_at_6 (by rw [c2]; decide) (by rw [c2]; decide) (by rw [c2]; rfl) (by decide) ?_
    refine lv_aload_n hx hb dX_at_48 rfl (lv_at hl 0 rfl) ?_
    refine va_get (ci := 1) (v := .ref (a 1)) (C := RX9) (T := TX9) (N := 20) hx hb hts iX9 hown hK hP 0 (XWc_0 cI cL cZ h a S1) rfl 1 (by decide) (hto (.fieldLink RX9 13 "PieceTrace" "weights" "[I") (by decide +kernel)) (fun _ h9 => h9) rfl dX_at_49 ?_
    refine lv_iload_n hx hb dX_at_52 rfl (lv_at hl 1 rfl) ?_
    obtain ⟨hi3, hw⟩ := hw
    refine va_iald (f := (xWe S1)) hx hb hK hP 2 0 (XWc_2 cI cL cZ h a S1) rfl hi3 dX_at_53 ?_
    exact gx_i hx hb hr hlocks hK hP hD hS hw dX_at_54
  have hw := hw.2 c2
  by_cases c4 : p1 = 1
  · have hw := hw.1 c4
    refine lv_tableIn (off := 49) (tgt := 55) hx hb dX_at_6 (by rw [c4]; decide) (by rw [c4]; decide) (by rw [c4]; rfl) (by decide) ?_
    refine lv_aload_n hx hb dX_at_55 rfl (lv_at hl 0 rfl) ?_
    refine va_get (ci := 1) (v := .ref (a 2)) (C := RX9) (T := TX9) (N := 20) hx hb hts iX9 hown hK hP 0 (XWc_0 cI cL cZ h a S1) rfl 2 (by decide) (hto (.fieldLink RX9 16 "PieceTrace" "lengths" "[I") (by decide +kernel)) (fun _ h9 => h9) rfl dX_at_56 ?_
    refine lv_iload_n hx hb dX_at_59 rfl (lv_at hl 1 rfl) ?_
    obtain ⟨hi5, hw⟩ := hw
    refine va_iald (f := (xLe S1)) hx hb hK hP 3 0 (XWc_3 cI cL cZ h a S1) rfl hi5 dX_at_60 ?_
    exact gx_i hx hb hr hlocks hK hP hD hS hw dX_at_61
  have hw := hw.2 c4
  by_cases c6 : p1 = 2
  · have hw := hw.1 c6
    refine lv_tableIn (off := 56) (tgt := 62) hx hb dX_at_6 (by rw [c6]; decide) (by rw [c6]; decide) (by rw [c6]; rfl) (by decide) ?_
    refine lv_aload_n hx hb dX_at_62 rfl (lv_at hl 0 rfl) ?_
    refine lv_iload_n hx hb dX_at_63 rfl (lv_at hl 1 rfl) ?_
    refine gk_z (wr := []) (wc := XW cI cL cZ h a S1) (wfc := XW cI cL cZ h a) hP hD hS hA (va_runV (As := [.int p0]) (rest := []) C (c_X_isLive l hl9 D cI cL cZ h a _ p0 S1 hw H.size) (cwV 1 hts (gGV (by decide +kernel) kX_isLive) rfl rfl rfl (by decide +kernel) ⟨Nat.le_of_ble_eq_true rfl, Nat.le_of_ble_eq_true rfl⟩) (g_preV (wr := []) (wc := XW cI cL cZ h a S1) (ci := 1) hK hG hA hP hD hS rfl (XWc_0 cI cL cZ h a S1) rfl) rfl rfl hl.1 rfl (lv_room (Nat.le_of_ble_eq_true rfl)) dX_at_64 ⟨Nat.le_of_ble_eq_true rfl, Nat.le_of_ble_eq_true rfl⟩) (fun r8 S7 hbr8 H locs hw hP hD hS => ?_)
    have hP : va_P D vwCl (XW cI cL cZ h a S7) H := hP
    have hD : va_D A (XW cI cL cZ h a S7) := hD
    refine lv_if_eq (tgt := 74) hx hb dX_at_67 (by decide) (fun c9 => ?_) (fun c9 => ?_)
    · have hw := hw.1 c9
      refine lv_aload_n hx hb dX_at_74 rfl (lv_at hl 0 rfl) ?_
      refine va_get (ci := 1) (v := .ref (a 3)) (C := RX9) (T := TX9) (N := 20) hx hb hts iX9 hown hK hP 0 (XWc_0 cI cL cZ h a S7) rfl 3 (by decide) (hto (.fieldLink RX9 19 "PieceTrace" "states" "[I") (by decide +kernel)) (fun _ h9 => h9) rfl dX_at_75 ?_
      refine lv_iload_n hx hb dX_at_78 rfl (lv_at hl 1 rfl) ?_
      obtain ⟨hi10, hw⟩ := hw
      refine va_iald (f := (xSt S7)) hx hb hK hP 4 0 (XWc_4 cI cL cZ h a S7) rfl hi10 dX_at_79 ?_
      exact gx_i hx hb hr hlocks hK hP hD hS hw dX_at_80
    · have hw := hw.2 c9
      refine lv_iconst (v := 0) hx hb dX_at_70 (by decide) ?_
      refine lv_goto (tgt := 80) hx hb dX_at_71 (by decide) ?_
      exact gx_i hx hb hr hlocks hK hP hD hS hw dX_at_80
  have hw := hw.2 c6
  by_cases c11 : p1 = 3
  · have hw := hw.1 c11
    refine lv_tableIn (off := 75) (tgt := 81) hx hb dX_at_6 (by rw [c11]; decide) (by rw [c11]; decide) (by rw [c11]; rfl) (by decide) ?_
    refine lv_aload_n hx hb dX_at_81 rfl (lv_at hl 0 rfl) ?_
    refine va_get (ci := 1) (v := .ref (a 3)) (C := RX9) (T := TX9) (N := 20) hx hb hts iX9 hown hK hP 0 (XWc_0 cI cL cZ h a S1) rfl 3 (by decide) (hto (.fieldLink RX9 19 "PieceTrace" "states" "[I") (by decide +kernel)) (fun _ h9 => h9) rfl dX_at_82 ?_
    refine lv_iload_n hx hb dX_at_85 rfl (lv_at hl 1 rfl) ?_
    obtain ⟨hi12, hw⟩ := hw
    refine va_iald (f := (xSt S1)) hx hb hK hP 4 0 (XWc_4 cI cL cZ h a S1) rfl hi12 dX_at_86 ?_
    refine lv_iconst (v := 3) hx hb dX_at_87 (by decide) ?_
    refine lv_icmp_ne (tgt := 95) hx hb dX_at_88 (by decide) (fun c13 => ?_) (fun c13 => ?_)
    · have hw := hw.2 c13
      refine lv_iconst (v := 0) hx hb dX_at_95 (by decide) ?_
      exact gx_i hx hb hr hlocks hK hP hD hS hw dX_at_96
    · have hw := hw.1 c13
      refine lv_iconst (v := 1) hx hb dX_at_91 (by decide) ?_
      refine lv_goto (tgt := 96) hx hb dX_at_92 (by decide) ?_
      exact gx_i hx hb hr hlocks hK hP hD hS hw dX_at_96
  have hw := hw.2 c11
  by_cases c14 : p1 = 4
  · have hw := hw.1 c14
    refine lv_tableIn (off := 91) (tgt := 97) hx hb dX_at_6 (by rw [c14]; decide) (by rw [c14]; decide) (by rw [c14]; rfl) (by decide) ?_
    refine lv_aload_n hx hb dX_at_97 rfl (lv_at hl 0 rfl) ?_
    refine va_get (ci := 1) (v := .ref (a 4)) (C := RX9) (T := TX9) (N := 20) hx hb hts iX9 hown hK hP 0 (XWc_0 cI cL cZ h a S1) rfl 4 (by decide) (hto (.fieldLink RX9 22 "PieceTrace" "sources" "[I") (by decide +kernel)) (fun _ h9 => h9) rfl dX_at_98 ?_
    refine lv_iload_n hx hb dX_at_101 rfl (lv_at hl 1 rfl) ?_
    obtain ⟨hi15, hw⟩ := hw
    refine va_iald (f := (xSo S1)) hx hb hK hP 5 0 (XWc_5 cI cL cZ h a S1) rfl hi15 dX_at_102 ?_
    exact gx_i hx hb hr hlocks hK hP hD hS hw dX_at_103
  have hw := hw.2 c14
  by_cases c16 : p1 = 5
  · have hw := hw.1 c16
    refine lv_tableIn (off := 98) (tgt := 104) hx hb dX_at_6 (by rw [c16]; decide) (by rw [c16]; decide) (by rw [c16]; rfl) (by decide) ?_
    refine lv_aload_n hx hb dX_at_104 rfl (lv_at hl 0 rfl) ?_
    refine va_get (ci := 1) (v := .ref (a 5)) (C := RX9) (T := TX9) (N := 20) hx hb hts iX9 hown hK hP 0 (XWc_0 cI cL cZ h a S1) rfl 5 (by decide) (hto (.fieldLink RX9 25 "PieceTrace" "seconds" "[I") (by decide +kernel)) (fun _ h9 => h9) rfl dX_at_105 ?_
    refine lv_iload_n hx hb dX_at_108 rfl (lv_at hl 1 rfl) ?_
    obtain ⟨hi17, hw⟩ := hw
    refine va_iald (f := (xSe S1)) hx hb hK hP 6 0 (XWc_6 cI cL cZ h a S1) rfl hi17 dX_at_109 ?_
    exact gx_i hx hb hr hlocks hK hP hD hS hw dX_at_110
  have hw := hw.2 c16
  by_cases c18 : p1 = 6
  · have hw := hw.1 c18
    refine lv_tableIn (off := 105) (tgt := 111) hx hb dX_at_6 (by rw [c18]; decide) (by rw [c18]; decide) (by rw [c18]; rfl) (by decide) ?_
    refine lv_aload_n hx hb dX_at_111 rfl (lv_at hl 0 rfl) ?_
    refine va_get (ci := 1) (v := .ref (a 6)) (C := RX9) (T := TX9) (N := 20) hx hb hts iX9 hown hK hP 0 (XWc_0 cI cL cZ h a S1) rfl 6 (by decide) (hto (.fieldLink RX9 28 "PieceTrace" "rollCounts" "[I") (by decide +kernel)) (fun _ h9 => h9) rfl dX_at_112 ?_
    refine lv_iload_n hx hb dX_at_115 rfl (lv_at hl 1 rfl) ?_
    obtain ⟨hi19, hw⟩ := hw
    refine va_iald (f := (xRo S1)) hx hb hK hP 7 0 (XWc_7 cI cL cZ h a S1) rfl hi19 dX_at_116 ?_
    exact gx_i hx hb hr hlocks hK hP hD hS hw dX_at_117
  have hw := hw.2 c18
  have nc2 := lv_neT (a := 0) c2 (by decide)
  have nc4 := lv_neT (a := 1) c4 (by decide)
  have nc6 := lv_neT (a := 2) c6 (by decide)
  have nc11 := lv_neT (a := 3) c11 (by decide)
  have nc14 := lv_neT (a := 4) c14 (by decide)
  have nc16 := lv_neT (a := 5) c16 (by decide)
  have nc18 := lv_neT (a := 6) c18 (by decide)
  refine lv_tableOut (tgt := 118) hx hb dX_at_6 (by omega) (by decide) ?_
  exact g_throw (own := RX9) (cls := "java/lang/IndexOutOfBoundsException") (text := "no such what") hx hb hl9 hown (hto (.classLink RX9 86 "java/lang/IndexOutOfBoundsException") (by decide +kernel)) (hto (.initialized "java/lang/IndexOutOfBoundsException") (by decide +kernel)) (hG.2.2.1 (RX9, 127, "no such what") (by decide +kernel)) (g_at_IOB hts hG) gF_IOB gN_ gO_IOB_86 hG hK hP hD hS (hl.1.trans hml.symm) dX_at_118 dX_at_121 dX_at_122 dX_at_124 dX_at_127 hEx (Nat.le_of_ble_eq_true rfl) (Nat.le_of_ble_eq_true rfl) (Nat.le_of_ble_eq_true rfl) (Nat.le_of_ble_eq_true rfl) hlocks hw (Nat.le_of_ble_eq_true rfl) (Nat.le_of_ble_eq_true rfl)
def wp_X_origin (post : Int64 → XSt → Prop) (xp : String → XSt → Prop) (p0 : Int32) (p1 : Int32) (p2 : Int32) (S : XSt) : Prop := (wp_X_needPiece (fun  S1 => (wp_X_needPart (fun  S2 => (vp_in p0 40 ∧ (wp_X_needWithin (fun  S4 => (wp_X_walkBack (fun r6 S5 => ((p2 = 0 → (post r6.toInt64 S5)) ∧ (¬ p2 = 0 → ((p2 = 1 → (post (xup S5) S5)) ∧ (¬ p2 = 1 → (post (xlo S5) S5)))))) p0 p1 S4)) xp p1 0 ((xLe S2 p0.toNatClampNeg) - 1) S2))) xp p2 2 S1)) xp p0 S)
set_option maxHeartbeats 4000000 in
set_option maxRecDepth 100000 in
theorem c_X_origin (l : Launch) (hl9 : l.stackTraces = false) (D : va_G) (cI cL cZ : ClassId) (h : Nat) (a : Nat → Nat) (post : Int64 → XSt → Prop) (xp : String → XSt → Prop) (p0 : Int32) (p1 : Int32) (p2 : Int32) (S : XSt) (hw : wp_X_origin post xp p0 p1 p2 S) : gXl l yX_origin wsX_origin ({ frames := 7, cells := 1, slots := 6, locals := 104 }) D [(cI, .int), (cL, .long), (cZ, .boolean)] [.ref h, .int p0, .int p1, .int p2] (XW cI cL cZ h a S) (XW cI cL cZ h a) post xp := by
  refine g_ofXl (cc := cX_origin) (maxL := 5) (ret := (some .long)) (own := RX9) (by decide) rfl rfl (Nat.le_of_ble_eq_true rfl) ?_
  intro p e s m below meth c A H locs ls C hr hlocks hEx hK hG hA hP hD hS hl
  obtain ⟨hx, hb, hml, hown, hts⟩ := id C
  have hts := fun w (h9 : w ∈ gW) => hts w (List.mem_cons_of_mem _ h9)
  have hto := fun w (h9 : w ∈ gWo) => hts w (gWo_in w h9)
  have hl : lv_has ls 5 [(0, .ref h), (1, .int p0), (2, .int p1), (3, .int p2)] := hl
  dsimp only [wp_X_origin] at hw
  refine lv_aload_n hx hb dX_origin_0 rfl (lv_at hl 0 rfl) ?_
  refine lv_iload_n hx hb dX_origin_1 rfl (lv_at hl 1 rfl) ?_
  refine gk_xv (wr := []) (wc := XW cI cL cZ h a S) (wfc := XW cI cL cZ h a) hP hD hS hA (vx_runV (As := [.int p0]) (rest := []) C (c_X_needPiece l hl9 D cI cL cZ h a _ _ p0 S hw H.size) (cwV 1 hts (gGV (by decide +kernel) kX_needPiece) rfl rfl rfl (by decide +kernel) ⟨Nat.le_of_ble_eq_true rfl, Nat.le_of_ble_eq_true rfl⟩) (g_preV (wr := []) (wc := XW cI cL cZ h a S) (ci := 1) hK hG hA hP hD hS rfl (XWc_0 cI cL cZ h a S) rfl) rfl rfl hl.1 rfl (lv_room (Nat.le_of_ble_eq_true rfl)) dX_origin_2 ⟨Nat.le_of_ble_eq_true rfl, Nat.le_of_ble_eq_true rfl⟩) (fun E S1 ce q9 H locs hw hP hD hS hce hcv hcl => ?_) (fun  S1 H locs hw hP hD hS => ?_)
  · exact gx_out hEx hlocks hce hcv hcl hK hw hP hD hS (Nat.le_of_ble_eq_true rfl) (Nat.le_of_ble_eq_true rfl)
  have hP : va_P D vwCl (XW cI cL cZ h a S1) H := hP
  have hD : va_D A (XW cI cL cZ h a S1) := hD
  refine lv_iload_n hx hb dX_origin_5 rfl (lv_at hl 3 rfl) ?_
  refine lv_iconst (v := 2) hx hb dX_origin_6 (by decide) ?_
  refine gk_xv (wr := []) (wc := XW cI cL cZ h a S1) (wfc := XW cI cL cZ h a) hP hD hS hA (vx_runS (As := [.int p2, .int 2]) (rest := []) C (c_X_needPart l hl9 D cI cL cZ h a _ _ p2 2 S1 hw H.size) (va_cwS 2 hts (gGS (by decide +kernel) kX_needPart) rfl rfl rfl (by decide +kernel) ⟨Nat.le_of_ble_eq_true rfl, Nat.le_of_ble_eq_true rfl⟩) (g_preS (wr := []) (wc := XW cI cL cZ h a S1) hK hG hA hP hD hS) rfl rfl hl.1 rfl (lv_room (Nat.le_of_ble_eq_true rfl)) dX_origin_7 ⟨Nat.le_of_ble_eq_true rfl, Nat.le_of_ble_eq_true rfl⟩) (fun E S2 ce q9 H locs hw hP hD hS hce hcv hcl => ?_) (fun  S2 H locs hw hP hD hS => ?_)
  · exact gx_out hEx hlocks hce hcv hcl hK hw hP hD hS (Nat.le_of_ble_eq_true rfl) (Nat.le_of_ble_eq_true rfl)
  have hP : va_P D vwCl (XW cI cL cZ h a S2) H := hP
  have hD : va_D A (XW cI cL cZ h a S2) := hD
  refine lv_iload_n hx hb dX_origin_10 rfl (lv_at hl 2 rfl) ?_
  refine lv_iconst (v := 0) hx hb dX_origin_11 (by decide) ?_
  refine lv_aload_n hx hb dX_origin_12 rfl (lv_at hl 0 rfl) ?_
  refine va_get (ci := 1) (v := .ref (a 2)) (C := RX9) (T := TX9) (N := 20) hx hb hts iX9 hown hK hP 0 (XWc_0 cI cL cZ h a S2) rfl 2 (by decide) (hto (.fieldLink RX9 16 "PieceTrace" "lengths" "[I") (by decide +kernel)) (fun _ h9 => h9) rfl dX_origin_13 ?_
  refine lv_iload_n hx hb dX_origin_16 rfl (lv_at hl 1 rfl) ?_
  obtain ⟨hi3, hw⟩ := hw
  refine va_iald (f := (xLe S2)) hx hb hK hP 3 0 (XWc_3 cI cL cZ h a S2) rfl hi3 dX_origin_17 ?_
  refine lv_iconst (v := 1) hx hb dX_origin_18 (by decide) ?_
  refine lv_isub hx hb dX_origin_19 ?_
  refine gk_xv (wr := []) (wc := XW cI cL cZ h a S2) (wfc := XW cI cL cZ h a) hP hD hS hA (vx_runS (As := [.int p1, .int 0, .int ((xLe S2 p0.toNatClampNeg) - 1)]) (rest := []) C (c_X_needWithin l hl9 D cI cL cZ h a _ _ p1 0 ((xLe S2 p0.toNatClampNeg) - 1) S2 hw H.size) (va_cwS 3 hts (gGS (by decide +kernel) kX_needWithin) rfl rfl rfl (by decide +kernel) ⟨Nat.le_of_ble_eq_true rfl, Nat.le_of_ble_eq_true rfl⟩) (g_preS (wr := []) (wc := XW cI cL cZ h a S2) hK hG hA hP hD hS) rfl rfl hl.1 rfl (lv_room (Nat.le_of_ble_eq_true rfl)) dX_origin_20 ⟨Nat.le_of_ble_eq_true rfl, Nat.le_of_ble_eq_true rfl⟩) (fun E S4 ce q9 H locs hw hP hD hS hce hcv hcl => ?_) (fun  S4 H locs hw hP hD hS => ?_)
  · exact gx_out hEx hlocks hce hcv hcl hK hw hP hD hS (Nat.le_of_ble_eq_true rfl) (Nat.le_of_ble_eq_true rfl)
  have hP : va_P D vwCl (XW cI cL cZ h a S4) H := hP
  have hD : va_D A (XW cI cL cZ h a S4) := hD
  refine lv_aload_n hx hb dX_origin_23 rfl (lv_at hl 0 rfl) ?_
  refine lv_iload_n hx hb dX_origin_24 rfl (lv_at hl 1 rfl) ?_
  refine lv_iload_n hx hb dX_origin_25 rfl (lv_at hl 2 rfl) ?_
  refine gk_i (wr := []) (wc := XW cI cL cZ h a S4) (wfc := XW cI cL cZ h a) hP hD hS hA (va_runV (As := [.int p0, .int p1]) (rest := []) C (c_X_walkBack l hl9 D cI cL cZ h a _ p0 p1 S4 hw H.size) (cwV 2 hts (gGV (by decide +kernel) kX_walkBack) rfl rfl rfl (by decide +kernel) ⟨Nat.le_of_ble_eq_true rfl, Nat.le_of_ble_eq_true rfl⟩) (g_preV (wr := []) (wc := XW cI cL cZ h a S4) (ci := 1) hK hG hA hP hD hS rfl (XWc_0 cI cL cZ h a S4) rfl) rfl rfl hl.1 rfl (lv_room (Nat.le_of_ble_eq_true rfl)) dX_origin_26 ⟨Nat.le_of_ble_eq_true rfl, Nat.le_of_ble_eq_true rfl⟩) (fun r6 S5 H locs hw hP hD hS => ?_)
  have hP : va_P D vwCl (XW cI cL cZ h a S5) H := hP
  have hD : va_D A (XW cI cL cZ h a S5) := hD
  refine lv_istore (lv' := [(4, .int r6), (0, .ref h), (1, .int p0), (2, .int p1), (3, .int p2)]) hx hb dX_origin_29 hl (by decide) rfl (fun ls hl => ?_)
  refine lv_iload_n hx hb dX_origin_31 rfl (lv_at hl 4 rfl) ?_
  refine lv_if_ne (tgt := 39) hx hb dX_origin_32 (by decide) (fun c7 => ?_) (fun c7 => ?_)
  · have hw := hw.2 c7
    refine lv_iload_n hx hb dX_origin_39 rfl (lv_at hl 4 rfl) ?_
    refine lv_iconst (v := 1) hx hb dX_origin_40 (by decide) ?_
    refine lv_icmp_ne (tgt := 54) hx hb dX_origin_41 (by decide) (fun c8 => ?_) (fun c8 => ?_)
    · have hw := hw.2 c8
      refine lv_aload_n hx hb dX_origin_54 rfl (lv_at hl 1 rfl) ?_
      refine va_get (ci := 1) (v := .ref (a 15)) (C := RX9) (T := TX9) (N := 20) hx hb hts iX9 hown hK hP 0 (XWc_0 cI cL cZ h a S5) rfl 17 (by decide) (hto (.fieldLink RX9 53 "PieceTrace" "spot" "LPieceTrace$Place;") (by decide +kernel)) (fun _ h9 => h9) rfl dX_origin_55 ?_
      refine va_getN (ci := 0) (v := .long (xlo S5)) (C := RP9) (T := TP9) (N := 2) hx hb hts iP9 hown hK hP 16 (XWc_16 cI cL cZ h a S5) rfl 1 (by decide) (va_Nw.use rfl (hG.1 (.fieldLinkNest RX9 139 "PieceTrace$Place" "lower" "J" "PieceTrace") (by decide +kernel))) (fun _ h9 => h9) rfl dX_origin_58 ?_
      exact gx_l hx hb hr hlocks hK hP hD hS hw dX_origin_61
    · have hw := hw.1 c8
      refine lv_aload_n hx hb dX_origin_44 rfl (lv_at hl 1 rfl) ?_
      refine va_get (ci := 1) (v := .ref (a 15)) (C := RX9) (T := TX9) (N := 20) hx hb hts iX9 hown hK hP 0 (XWc_0 cI cL cZ h a S5) rfl 17 (by decide) (hto (.fieldLink RX9 53 "PieceTrace" "spot" "LPieceTrace$Place;") (by decide +kernel)) (fun _ h9 => h9) rfl dX_origin_45 ?_
      refine va_getN (ci := 0) (v := .long (xup S5)) (C := RP9) (T := TP9) (N := 2) hx hb hts iP9 hown hK hP 16 (XWc_16 cI cL cZ h a S5) rfl 0 (by decide) (va_Nw.use rfl (hG.1 (.fieldLinkNest RX9 136 "PieceTrace$Place" "upper" "J" "PieceTrace") (by decide +kernel))) (fun _ h9 => h9) rfl dX_origin_48 ?_
      refine lv_goto (tgt := 61) hx hb dX_origin_51 (by decide) ?_
      exact gx_l hx hb hr hlocks hK hP hD hS hw dX_origin_61
  · have hw := hw.1 c7
    refine lv_iload hx hb dX_origin_35 (lv_at hl 0 rfl) ?_
    refine lv_i2l (v := r6.toInt64) hx hb dX_origin_37 rfl ?_
    exact gx_l hx hb hr hlocks hK hP hD hS hw dX_origin_38
def wp_X_defect (post : Int32 → XSt → Prop) (xp : String → XSt → Prop) (p0 : Int32) (p1 : Int32) (S : XSt) : Prop := (wp_X_needPiece (fun  S1 => (vp_in p0 40 ∧ (wp_X_needWithin (fun  S3 => (((xdc S3) < 10 → (∀ v3_5 : Int32, v3_5 = (xdc S3) → (wp_X_walkBack (fun r7 S6 => (vp_in v3_5 10 ∧ (∀ S9 : XSt, S9 = xuDM S6 v3_5 r7 → (vp_in v3_5 10 ∧ (∀ S11 : XSt, S11 = xuDU S9 v3_5 (xup S9) → (vp_in v3_5 10 ∧ (∀ S13 : XSt, S13 = xuDL S11 v3_5 (xlo S11) → (∀ S14 : XSt, S14 = xsdc S13 ((xdc S13) + 1) → (post v3_5 S14))))))))) p0 p1 S3))) ∧ (¬ (xdc S3) < 10 → (xp "java/lang/UnsupportedOperationException" S3)))) xp p1 0 ((xLe S1 p0.toNatClampNeg) - 1) S1))) xp p0 S)
set_option maxHeartbeats 4000000 in
set_option maxRecDepth 100000 in
theorem c_X_defect (l : Launch) (hl9 : l.stackTraces = false) (D : va_G) (cI cL cZ : ClassId) (h : Nat) (a : Nat → Nat) (post : Int32 → XSt → Prop) (xp : String → XSt → Prop) (p0 : Int32) (p1 : Int32) (S : XSt) (hw : wp_X_defect post xp p0 p1 S) : gXi l yX_defect wsX_defect ({ frames := 7, cells := 1, slots := 6, locals := 104 }) D [(cI, .int), (cL, .long), (cZ, .boolean)] [.ref h, .int p0, .int p1] (XW cI cL cZ h a S) (XW cI cL cZ h a) post xp := by
  refine g_ofXi (cc := cX_defect) (maxL := 4) (ret := (some .int)) (own := RX9) (by decide) rfl rfl (Nat.le_of_ble_eq_true rfl) ?_
  intro p e s m below meth c A H locs ls C hr hlocks hEx hK hG hA hP hD hS hl
  obtain ⟨hx, hb, hml, hown, hts⟩ := id C
  have hts := fun w (h9 : w ∈ gW) => hts w (List.mem_cons_of_mem _ h9)
  have hto := fun w (h9 : w ∈ gWo) => hts w (gWo_in w h9)
  have hl : lv_has ls 4 [(0, .ref h), (1, .int p0), (2, .int p1)] := hl
  dsimp only [wp_X_defect] at hw
  refine lv_aload_n hx hb dX_defect_0 rfl (lv_at hl 0 rfl) ?_
  refine lv_iload_n hx hb dX_defect_1 rfl (lv_at hl 1 rfl) ?_
  refine gk_xv (wr := []) (wc := XW cI cL cZ h a S) (wfc := XW cI cL cZ h a) hP hD hS hA (vx_runV (As := [.int p0]) (rest := []) C (c_X_needPiece l hl9 D cI cL cZ h a _ _ p0 S hw H.size) (cwV 1 hts (gGV (by decide +kernel) kX_needPiece) rfl rfl rfl (by decide +kernel) ⟨Nat.le_of_ble_eq_true rfl, Nat.le_of_ble_eq_true rfl⟩) (g_preV (wr := []) (wc := XW cI cL cZ h a S) (ci := 1) hK hG hA hP hD hS rfl (XWc_0 cI cL cZ h a S) rfl) rfl rfl hl.1 rfl (lv_room (Nat.le_of_ble_eq_true rfl)) dX_defect_2 ⟨Nat.le_of_ble_eq_true rfl, Nat.le_of_ble_eq_true rfl⟩) (fun E S1 ce q9 H locs hw hP hD hS hce hcv hcl => ?_) (fun  S1 H locs hw hP hD hS => ?_)
  · exact gx_out hEx hlocks hce hcv hcl hK hw hP hD hS (Nat.le_of_ble_eq_true rfl) (Nat.le_of_ble_eq_true rfl)
  have hP : va_P D vwCl (XW cI cL cZ h a S1) H := hP
  have hD : va_D A (XW cI cL cZ h a S1) := hD
  refine lv_iload_n hx hb dX_defect_5 rfl (lv_at hl 2 rfl) ?_
  refine lv_iconst (v := 0) hx hb dX_defect_6 (by decide) ?_
  refine lv_aload_n hx hb dX_defect_7 rfl (lv_at hl 0 rfl) ?_
  refine va_get (ci := 1) (v := .ref (a 2)) (C := RX9) (T := TX9) (N := 20) hx hb hts iX9 hown hK hP 0 (XWc_0 cI cL cZ h a S1) rfl 2 (by decide) (hto (.fieldLink RX9 16 "PieceTrace" "lengths" "[I") (by decide +kernel)) (fun _ h9 => h9) rfl dX_defect_8 ?_
  refine lv_iload_n hx hb dX_defect_11 rfl (lv_at hl 1 rfl) ?_
  obtain ⟨hi2, hw⟩ := hw
  refine va_iald (f := (xLe S1)) hx hb hK hP 3 0 (XWc_3 cI cL cZ h a S1) rfl hi2 dX_defect_12 ?_
  refine lv_iconst (v := 1) hx hb dX_defect_13 (by decide) ?_
  refine lv_isub hx hb dX_defect_14 ?_
  refine gk_xv (wr := []) (wc := XW cI cL cZ h a S1) (wfc := XW cI cL cZ h a) hP hD hS hA (vx_runS (As := [.int p1, .int 0, .int ((xLe S1 p0.toNatClampNeg) - 1)]) (rest := []) C (c_X_needWithin l hl9 D cI cL cZ h a _ _ p1 0 ((xLe S1 p0.toNatClampNeg) - 1) S1 hw H.size) (va_cwS 3 hts (gGS (by decide +kernel) kX_needWithin) rfl rfl rfl (by decide +kernel) ⟨Nat.le_of_ble_eq_true rfl, Nat.le_of_ble_eq_true rfl⟩) (g_preS (wr := []) (wc := XW cI cL cZ h a S1) hK hG hA hP hD hS) rfl rfl hl.1 rfl (lv_room (Nat.le_of_ble_eq_true rfl)) dX_defect_15 ⟨Nat.le_of_ble_eq_true rfl, Nat.le_of_ble_eq_true rfl⟩) (fun E S3 ce q9 H locs hw hP hD hS hce hcv hcl => ?_) (fun  S3 H locs hw hP hD hS => ?_)
  · exact gx_out hEx hlocks hce hcv hcl hK hw hP hD hS (Nat.le_of_ble_eq_true rfl) (Nat.le_of_ble_eq_true rfl)
  have hP : va_P D vwCl (XW cI cL cZ h a S3) H := hP
  have hD : va_D A (XW cI cL cZ h a S3) := hD
  refine lv_aload_n hx hb dX_defect_18 rfl (lv_at hl 0 rfl) ?_
  refine va_get (ci := 1) (v := .int (xdc S3)) (C := RX9) (T := TX9) (N := 20) hx hb hts iX9 hown hK hP 0 (XWc_0 cI cL cZ h a S3) rfl 14 (by decide) (hto (.fieldLink RX9 142 "PieceTrace" "defectCount" "I") (by decide +kernel)) (fun _ h9 => h9) rfl dX_defect_19 ?_
  refine lv_bipush (v := 10) hx hb dX_defect_22 (by decide) ?_
  refine lv_icmp_lt (tgt := 37) hx hb dX_defect_24 (by decide) (fun c4 => ?_) (fun c4 => ?_)
  · have hw := hw.1 c4
    refine lv_aload_n hx hb dX_defect_37 rfl (lv_at hl 0 rfl) ?_
    refine va_get (ci := 1) (v := .int (xdc S3)) (C := RX9) (T := TX9) (N := 20) hx hb hts iX9 hown hK hP 0 (XWc_0 cI cL cZ h a S3) rfl 14 (by decide) (hto (.fieldLink RX9 142 "PieceTrace" "defectCount" "I") (by decide +kernel)) (fun _ h9 => h9) rfl dX_defect_38 ?_
    refine lv_topi (fun v3_5 ev3_5 => ?_)
    have hw := hw v3_5 ev3_5
    refine lv_istore_n (lv' := [(3, .int v3_5), (0, .ref h), (1, .int p0), (2, .int p1)]) hx hb dX_defect_41 rfl hl (by decide) rfl (fun ls hl => ?_)
    refine lv_aload_n hx hb dX_defect_42 rfl (lv_at hl 1 rfl) ?_
    refine va_get (ci := 1) (v := .ref (a 10)) (C := RX9) (T := TX9) (N := 20) hx hb hts iX9 hown hK hP 0 (XWc_0 cI cL cZ h a S3) rfl 11 (by decide) (hto (.fieldLink RX9 40 "PieceTrace" "defectMelts" "[I") (by decide +kernel)) (fun _ h9 => h9) rfl dX_defect_43 ?_
    refine lv_iload_n hx hb dX_defect_46 rfl (lv_at hl 0 rfl) ?_
    refine lv_aload_n hx hb dX_defect_47 rfl (lv_at hl 1 rfl) ?_
    refine lv_iload_n hx hb dX_defect_48 rfl (lv_at hl 2 rfl) ?_
    refine lv_iload_n hx hb dX_defect_49 rfl (lv_at hl 3 rfl) ?_
    refine gk_i (wr := []) (wc := XW cI cL cZ h a S3) (wfc := XW cI cL cZ h a) hP hD hS hA (va_runV (As := [.int p0, .int p1]) (rest := [.int v3_5, .ref (a 10)]) C (c_X_walkBack l hl9 D cI cL cZ h a _ p0 p1 S3 hw H.size) (cwV 2 hts (gGV (by decide +kernel) kX_walkBack) rfl rfl rfl (by decide +kernel) ⟨Nat.le_of_ble_eq_true rfl, Nat.le_of_ble_eq_true rfl⟩) (g_preV (wr := []) (wc := XW cI cL cZ h a S3) (ci := 1) hK hG hA hP hD hS rfl (XWc_0 cI cL cZ h a S3) rfl) rfl rfl hl.1 rfl (lv_room (Nat.le_of_ble_eq_true rfl)) dX_defect_50 ⟨Nat.le_of_ble_eq_true rfl, Nat.le_of_ble_eq_true rfl⟩) (fun r7 S6 H locs hw hP hD hS => ?_)
    have hP : va_P D vwCl (XW cI cL cZ h a S6) H := hP
    have hD : va_D A (XW cI cL cZ h a S6) := hD
    obtain ⟨hi8, hw⟩ := hw
    refine g_iast (wf := XW cI cL cZ h a) (S' := xuDM S6 v3_5 r7) hx hb hK hP hD hS 11 0 (XWc_11 cI cL cZ h a S6) rfl rfl hi8 dX_defect_53 (fun S9 eS9 H locs hP hD hS => ?_)
    have hw := hw S9 eS9
    refine lv_aload_n hx hb dX_defect_54 rfl (lv_at hl 1 rfl) ?_
    refine va_get (ci := 1) (v := .ref (a 11)) (C := RX9) (T := TX9) (N := 20) hx hb hts iX9 hown hK hP 0 (XWc_0 cI cL cZ h a S9) rfl 12 (by decide) (hto (.fieldLink RX9 43 "PieceTrace" "defectUppers" "[J") (by decide +kernel)) (fun _ h9 => h9) rfl dX_defect_55 ?_
    refine lv_iload_n hx hb dX_defect_58 rfl (lv_at hl 0 rfl) ?_
    refine lv_aload_n hx hb dX_defect_59 rfl (lv_at hl 1 rfl) ?_
    refine va_get (ci := 1) (v := .ref (a 15)) (C := RX9) (T := TX9) (N := 20) hx hb hts iX9 hown hK hP 0 (XWc_0 cI cL cZ h a S9) rfl 17 (by decide) (hto (.fieldLink RX9 53 "PieceTrace" "spot" "LPieceTrace$Place;") (by decide +kernel)) (fun _ h9 => h9) rfl dX_defect_60 ?_
    refine va_getN (ci := 0) (v := .long (xup S9)) (C := RP9) (T := TP9) (N := 2) hx hb hts iP9 hown hK hP 16 (XWc_16 cI cL cZ h a S9) rfl 0 (by decide) (va_Nw.use rfl (hG.1 (.fieldLinkNest RX9 136 "PieceTrace$Place" "upper" "J" "PieceTrace") (by decide +kernel))) (fun _ h9 => h9) rfl dX_defect_63 ?_
    obtain ⟨hi10, hw⟩ := hw
    refine g_last (wf := XW cI cL cZ h a) (S' := xuDU S9 v3_5 (xup S9)) hx hb hK hP hD hS 12 1 (XWc_12 cI cL cZ h a S9) rfl rfl hi10 dX_defect_66 (fun S11 eS11 H locs hP hD hS => ?_)
    have hw := hw S11 eS11
    refine lv_aload_n hx hb dX_defect_67 rfl (lv_at hl 1 rfl) ?_
    refine va_get (ci := 1) (v := .ref (a 12)) (C := RX9) (T := TX9) (N := 20) hx hb hts iX9 hown hK hP 0 (XWc_0 cI cL cZ h a S11) rfl 13 (by decide) (hto (.fieldLink RX9 47 "PieceTrace" "defectLowers" "[J") (by decide +kernel)) (fun _ h9 => h9) rfl dX_defect_68 ?_
    refine lv_iload_n hx hb dX_defect_71 rfl (lv_at hl 0 rfl) ?_
    refine lv_aload_n hx hb dX_defect_72 rfl (lv_at hl 1 rfl) ?_
    refine va_get (ci := 1) (v := .ref (a 15)) (C := RX9) (T := TX9) (N := 20) hx hb hts iX9 hown hK hP 0 (XWc_0 cI cL cZ h a S11) rfl 17 (by decide) (hto (.fieldLink RX9 53 "PieceTrace" "spot" "LPieceTrace$Place;") (by decide +kernel)) (fun _ h9 => h9) rfl dX_defect_73 ?_
    refine va_getN (ci := 0) (v := .long (xlo S11)) (C := RP9) (T := TP9) (N := 2) hx hb hts iP9 hown hK hP 16 (XWc_16 cI cL cZ h a S11) rfl 1 (by decide) (va_Nw.use rfl (hG.1 (.fieldLinkNest RX9 139 "PieceTrace$Place" "lower" "J" "PieceTrace") (by decide +kernel))) (fun _ h9 => h9) rfl dX_defect_76 ?_
    obtain ⟨hi12, hw⟩ := hw
    refine g_last (wf := XW cI cL cZ h a) (S' := xuDL S11 v3_5 (xlo S11)) hx hb hK hP hD hS 13 1 (XWc_13 cI cL cZ h a S11) rfl rfl hi12 dX_defect_79 (fun S13 eS13 H locs hP hD hS => ?_)
    have hw := hw S13 eS13
    refine lv_aload_n hx hb dX_defect_80 rfl (lv_at hl 1 rfl) ?_
    refine lv_dup hx hb dX_defect_81 rfl ?_
    refine va_get (ci := 1) (v := .int (xdc S13)) (C := RX9) (T := TX9) (N := 20) hx hb hts iX9 hown hK hP 0 (XWc_0 cI cL cZ h a S13) rfl 14 (by decide) (hto (.fieldLink RX9 142 "PieceTrace" "defectCount" "I") (by decide +kernel)) (fun _ h9 => h9) rfl dX_defect_82 ?_
    refine lv_iconst (v := 1) hx hb dX_defect_85 (by decide) ?_
    refine lv_iadd hx hb dX_defect_86 ?_
    refine g_put (wf := XW cI cL cZ h a) (S' := xsdc S13 ((xdc S13) + 1)) (ci := 1) (v := .int ((xdc S13) + 1)) (ty := .int) (C := RX9) (T := TX9) (N := 20) hx hb hts iX9 tyX9 tyX9_ok nmX9 hown hK hP hD hS 0 (XWc_0 cI cL cZ h a S13) rfl 14 (by decide) (hto (.fieldLink RX9 142 "PieceTrace" "defectCount" "I") (by decide +kernel)) (fun _ h9 => h9) rfl (by decide +kernel) rfl rfl (Nat.le_of_ble_eq_true rfl) rfl dX_defect_87 (fun S14 eS14 H locs hP hD hS => ?_)
    have hw := hw S14 eS14
    refine lv_iload_n hx hb dX_defect_90 rfl (lv_at hl 0 rfl) ?_
    exact gx_i hx hb hr hlocks hK hP hD hS hw dX_defect_91
  · have hw := hw.2 c4
    exact g_throw (own := RX9) (cls := "java/lang/UnsupportedOperationException") (text := "there is no room for a defect") hx hb hl9 hown (hto (.classLink RX9 95 "java/lang/UnsupportedOperationException") (by decide +kernel)) (hto (.initialized "java/lang/UnsupportedOperationException") (by decide +kernel)) (hG.2.2.1 (RX9, 145, "there is no room for a defect") (by decide +kernel)) (g_at_UOE hts hG) gF_UOE gN_ gO_UOE_95 hG hK hP hD hS (hl.1.trans hml.symm) dX_defect_27 dX_defect_30 dX_defect_31 dX_defect_33 dX_defect_36 hEx (Nat.le_of_ble_eq_true rfl) (Nat.le_of_ble_eq_true rfl) (Nat.le_of_ble_eq_true rfl) (Nat.le_of_ble_eq_true rfl) hlocks hw (Nat.le_of_ble_eq_true rfl) (Nat.le_of_ble_eq_true rfl)
def wp_X_has (post : Int64 → XSt → Prop) (xp : String → XSt → Prop) (p0 : Int32) (p1 : Int32) (p2 : Int32) (S : XSt) : Prop := (wp_X_needDefect (fun  S1 => (wp_X_needPiece (fun  S2 => (wp_X_needPart (fun  S3 => (wp_X_follow (fun  S4 => (vp_in p1 40 ∧ (((xFL S4 p1.toNatClampNeg) = 0 → (post (-1) S4)) ∧ (¬ (xFL S4 p1.toNatClampNeg) = 0 → ((p2 = 0 → (vp_in p1 40 ∧ (post (xFU S4 p1.toNatClampNeg) S4))) ∧ (¬ p2 = 0 → (vp_in p1 40 ∧ (post (xFL S4 p1.toNatClampNeg) S4)))))))) p0 S3)) xp p2 1 S2)) xp p1 S1)) xp p0 S)
set_option maxHeartbeats 4000000 in
set_option maxRecDepth 100000 in
theorem c_X_has (l : Launch) (hl9 : l.stackTraces = false) (D : va_G) (cI cL cZ : ClassId) (h : Nat) (a : Nat → Nat) (post : Int64 → XSt → Prop) (xp : String → XSt → Prop) (p0 : Int32) (p1 : Int32) (p2 : Int32) (S : XSt) (hw : wp_X_has post xp p0 p1 p2 S) : gXl l yX_has wsX_has ({ frames := 7, cells := 1, slots := 6, locals := 103 }) D [(cI, .int), (cL, .long), (cZ, .boolean)] [.ref h, .int p0, .int p1, .int p2] (XW cI cL cZ h a S) (XW cI cL cZ h a) post xp := by
  refine g_ofXl (cc := cX_has) (maxL := 4) (ret := (some .long)) (own := RX9) (by decide) rfl rfl (Nat.le_of_ble_eq_true rfl) ?_
  intro p e s m below meth c A H locs ls C hr hlocks hEx hK hG hA hP hD hS hl
  obtain ⟨hx, hb, hml, hown, hts⟩ := id C
  have hts := fun w (h9 : w ∈ gW) => hts w (List.mem_cons_of_mem _ h9)
  have hto := fun w (h9 : w ∈ gWo) => hts w (gWo_in w h9)
  have hl : lv_has ls 4 [(0, .ref h), (1, .int p0), (2, .int p1), (3, .int p2)] := hl
  dsimp only [wp_X_has] at hw
  refine lv_aload_n hx hb dX_has_0 rfl (lv_at hl 0 rfl) ?_
  refine lv_iload_n hx hb dX_has_1 rfl (lv_at hl 1 rfl) ?_
  refine gk_xv (wr := []) (wc := XW cI cL cZ h a S) (wfc := XW cI cL cZ h a) hP hD hS hA (vx_runV (As := [.int p0]) (rest := []) C (c_X_needDefect l hl9 D cI cL cZ h a _ _ p0 S hw H.size) (cwV 1 hts (gGV (by decide +kernel) kX_needDefect) rfl rfl rfl (by decide +kernel) ⟨Nat.le_of_ble_eq_true rfl, Nat.le_of_ble_eq_true rfl⟩) (g_preV (wr := []) (wc := XW cI cL cZ h a S) (ci := 1) hK hG hA hP hD hS rfl (XWc_0 cI cL cZ h a S) rfl) rfl rfl hl.1 rfl (lv_room (Nat.le_of_ble_eq_true rfl)) dX_has_2 ⟨Nat.le_of_ble_eq_true rfl, Nat.le_of_ble_eq_true rfl⟩) (fun E S1 ce q9 H locs hw hP hD hS hce hcv hcl => ?_) (fun  S1 H locs hw hP hD hS => ?_)
  · exact gx_out hEx hlocks hce hcv hcl hK hw hP hD hS (Nat.le_of_ble_eq_true rfl) (Nat.le_of_ble_eq_true rfl)
  have hP : va_P D vwCl (XW cI cL cZ h a S1) H := hP
  have hD : va_D A (XW cI cL cZ h a S1) := hD
  refine lv_aload_n hx hb dX_has_5 rfl (lv_at hl 0 rfl) ?_
  refine lv_iload_n hx hb dX_has_6 rfl (lv_at hl 2 rfl) ?_
  refine gk_xv (wr := []) (wc := XW cI cL cZ h a S1) (wfc := XW cI cL cZ h a) hP hD hS hA (vx_runV (As := [.int p1]) (rest := []) C (c_X_needPiece l hl9 D cI cL cZ h a _ _ p1 S1 hw H.size) (cwV 1 hts (gGV (by decide +kernel) kX_needPiece) rfl rfl rfl (by decide +kernel) ⟨Nat.le_of_ble_eq_true rfl, Nat.le_of_ble_eq_true rfl⟩) (g_preV (wr := []) (wc := XW cI cL cZ h a S1) (ci := 1) hK hG hA hP hD hS rfl (XWc_0 cI cL cZ h a S1) rfl) rfl rfl hl.1 rfl (lv_room (Nat.le_of_ble_eq_true rfl)) dX_has_7 ⟨Nat.le_of_ble_eq_true rfl, Nat.le_of_ble_eq_true rfl⟩) (fun E S2 ce q9 H locs hw hP hD hS hce hcv hcl => ?_) (fun  S2 H locs hw hP hD hS => ?_)
  · exact gx_out hEx hlocks hce hcv hcl hK hw hP hD hS (Nat.le_of_ble_eq_true rfl) (Nat.le_of_ble_eq_true rfl)
  have hP : va_P D vwCl (XW cI cL cZ h a S2) H := hP
  have hD : va_D A (XW cI cL cZ h a S2) := hD
  refine lv_iload_n hx hb dX_has_10 rfl (lv_at hl 3 rfl) ?_
  refine lv_iconst (v := 1) hx hb dX_has_11 (by decide) ?_
  refine gk_xv (wr := []) (wc := XW cI cL cZ h a S2) (wfc := XW cI cL cZ h a) hP hD hS hA (vx_runS (As := [.int p2, .int 1]) (rest := []) C (c_X_needPart l hl9 D cI cL cZ h a _ _ p2 1 S2 hw H.size) (va_cwS 2 hts (gGS (by decide +kernel) kX_needPart) rfl rfl rfl (by decide +kernel) ⟨Nat.le_of_ble_eq_true rfl, Nat.le_of_ble_eq_true rfl⟩) (g_preS (wr := []) (wc := XW cI cL cZ h a S2) hK hG hA hP hD hS) rfl rfl hl.1 rfl (lv_room (Nat.le_of_ble_eq_true rfl)) dX_has_12 ⟨Nat.le_of_ble_eq_true rfl, Nat.le_of_ble_eq_true rfl⟩) (fun E S3 ce q9 H locs hw hP hD hS hce hcv hcl => ?_) (fun  S3 H locs hw hP hD hS => ?_)
  · exact gx_out hEx hlocks hce hcv hcl hK hw hP hD hS (Nat.le_of_ble_eq_true rfl) (Nat.le_of_ble_eq_true rfl)
  have hP : va_P D vwCl (XW cI cL cZ h a S3) H := hP
  have hD : va_D A (XW cI cL cZ h a S3) := hD
  refine lv_aload_n hx hb dX_has_15 rfl (lv_at hl 0 rfl) ?_
  refine lv_iload_n hx hb dX_has_16 rfl (lv_at hl 1 rfl) ?_
  refine gk_v (wr := []) (wc := XW cI cL cZ h a S3) (wfc := XW cI cL cZ h a) hP hD hS hA (va_runV (As := [.int p0]) (rest := []) C (c_X_follow l hl9 D cI cL cZ h a _ p0 S3 hw H.size) (cwV 1 hts (gGV (by decide +kernel) kX_follow) rfl rfl rfl (by decide +kernel) ⟨Nat.le_of_ble_eq_true rfl, Nat.le_of_ble_eq_true rfl⟩) (g_preV (wr := []) (wc := XW cI cL cZ h a S3) (ci := 1) hK hG hA hP hD hS rfl (XWc_0 cI cL cZ h a S3) rfl) rfl rfl hl.1 rfl (lv_room (Nat.le_of_ble_eq_true rfl)) dX_has_17 ⟨Nat.le_of_ble_eq_true rfl, Nat.le_of_ble_eq_true rfl⟩) (fun  S4 H locs hw hP hD hS => ?_)
  have hP : va_P D vwCl (XW cI cL cZ h a S4) H := hP
  have hD : va_D A (XW cI cL cZ h a S4) := hD
  refine lv_aload_n hx hb dX_has_20 rfl (lv_at hl 0 rfl) ?_
  refine va_get (ci := 1) (v := .ref (a 14)) (C := RX9) (T := TX9) (N := 20) hx hb hts iX9 hown hK hP 0 (XWc_0 cI cL cZ h a S4) rfl 19 (by decide) (hto (.fieldLink RX9 60 "PieceTrace" "foundLowers" "[J") (by decide +kernel)) (fun _ h9 => h9) rfl dX_has_21 ?_
  refine lv_iload_n hx hb dX_has_24 rfl (lv_at hl 2 rfl) ?_
  obtain ⟨hi5, hw⟩ := hw
  refine va_lald (f := (xFL S4)) hx hb hK hP 15 1 (XWc_15 cI cL cZ h a S4) rfl hi5 dX_has_25 ?_
  refine lv_lconst (v := 0) hx hb dX_has_26 (by decide) ?_
  refine W.lcmp hx hb dX_has_27 ?_
  refine lv_if_ne (tgt := 35) hx hb dX_has_28 (by decide) (fun c6 => ?_) (fun c6 => ?_)
  · have c6 : ¬ (xFL S4 p1.toNatClampNeg) = 0 := fun h9 => c6 ((lg_cmp_eq _ _).mpr h9)
    have hw := hw.2 c6
    refine lv_iload_n hx hb dX_has_35 rfl (lv_at hl 3 rfl) ?_
    refine lv_if_ne (tgt := 48) hx hb dX_has_36 (by decide) (fun c7 => ?_) (fun c7 => ?_)
    · have hw := hw.2 c7
      refine lv_aload_n hx hb dX_has_48 rfl (lv_at hl 0 rfl) ?_
      refine va_get (ci := 1) (v := .ref (a 14)) (C := RX9) (T := TX9) (N := 20) hx hb hts iX9 hown hK hP 0 (XWc_0 cI cL cZ h a S4) rfl 19 (by decide) (hto (.fieldLink RX9 60 "PieceTrace" "foundLowers" "[J") (by decide +kernel)) (fun _ h9 => h9) rfl dX_has_49 ?_
      refine lv_iload_n hx hb dX_has_52 rfl (lv_at hl 2 rfl) ?_
      obtain ⟨hi8, hw⟩ := hw
      refine va_lald (f := (xFL S4)) hx hb hK hP 15 1 (XWc_15 cI cL cZ h a S4) rfl hi8 dX_has_53 ?_
      exact gx_l hx hb hr hlocks hK hP hD hS hw dX_has_54
    · have hw := hw.1 c7
      refine lv_aload_n hx hb dX_has_39 rfl (lv_at hl 0 rfl) ?_
      refine va_get (ci := 1) (v := .ref (a 13)) (C := RX9) (T := TX9) (N := 20) hx hb hts iX9 hown hK hP 0 (XWc_0 cI cL cZ h a S4) rfl 18 (by decide) (hto (.fieldLink RX9 57 "PieceTrace" "foundUppers" "[J") (by decide +kernel)) (fun _ h9 => h9) rfl dX_has_40 ?_
      refine lv_iload_n hx hb dX_has_43 rfl (lv_at hl 2 rfl) ?_
      obtain ⟨hi9, hw⟩ := hw
      refine va_lald (f := (xFU S4)) hx hb hK hP 14 1 (XWc_14 cI cL cZ h a S4) rfl hi9 dX_has_44 ?_
      refine lv_goto (tgt := 54) hx hb dX_has_45 (by decide) ?_
      exact gx_l hx hb hr hlocks hK hP hD hS hw dX_has_54
  · have c6 : (xFL S4 p1.toNatClampNeg) = 0 := (lg_cmp_eq _ _).mp c6
    have hw := hw.1 c6
    refine lv_ldc2 (v := (-1)) hx hb hown (hto (.constantLong RX9 153 (-1)) (by decide +kernel)) dX_has_31 ?_
    exact gx_l hx hb hr hlocks hK hP hD hS hw dX_has_34
def wpL_X_recall_29 (post : Int32 → XSt → Prop) (xp : String → XSt → Prop) (p0 : Int32) (p1 : Int32) : Nat → XSt → Int32 → Int32 → Prop
  | 0 => fun _ _ _ => False
  | n + 1 => fun S u3 u4 => (((xpc S) ≤ u4 → (post (-1) S)) ∧ (¬ (xpc S) ≤ u4 → (wp_X_isLive (fun r6 S5 => ((r6 = 0 → (∀ v4_8 : Int32, v4_8 = u4 + 1 → (wpL_X_recall_29 post xp p0 p1 n S5 u3 v4_8))) ∧ (¬ r6 = 0 → (vp_in u4 40 ∧ (((xFL S5 u4.toNatClampNeg) = 0 → (∀ v4_11 : Int32, v4_11 = u4 + 1 → (wpL_X_recall_29 post xp p0 p1 n S5 u3 v4_11))) ∧ (¬ (xFL S5 u4.toNatClampNeg) = 0 → ((u3 = p1 → (post u4 S5)) ∧ (¬ u3 = p1 → (∀ v3_13 : Int32, v3_13 = u3 + 1 → (∀ v4_14 : Int32, v4_14 = u4 + 1 → (wpL_X_recall_29 post xp p0 p1 n S5 v3_13 v4_14))))))))))) u4 S)))
def wp_X_recall (post : Int32 → XSt → Prop) (xp : String → XSt → Prop) (p0 : Int32) (p1 : Int32) (S : XSt) : Prop := (wp_X_needDefect (fun  S1 => ((0 ≤ p1 → (wp_X_follow (fun  S3 => (∃ n : Nat, wpL_X_recall_29 post xp p0 p1 n S3 0 0)) p0 S1)) ∧ (¬ 0 ≤ p1 → (xp "java/lang/IndexOutOfBoundsException" S1)))) xp p0 S)
set_option maxHeartbeats 4000000 in
set_option maxRecDepth 100000 in
theorem c_X_recall (l : Launch) (hl9 : l.stackTraces = false) (D : va_G) (cI cL cZ : ClassId) (h : Nat) (a : Nat → Nat) (post : Int32 → XSt → Prop) (xp : String → XSt → Prop) (p0 : Int32) (p1 : Int32) (S : XSt) (hw : wp_X_recall post xp p0 p1 S) : gXi l yX_recall wsX_recall ({ frames := 7, cells := 1, slots := 6, locals := 103 }) D [(cI, .int), (cL, .long), (cZ, .boolean)] [.ref h, .int p0, .int p1] (XW cI cL cZ h a S) (XW cI cL cZ h a) post xp := by
  refine g_ofXi (cc := cX_recall) (maxL := 5) (ret := (some .int)) (own := RX9) (by decide) rfl rfl (Nat.le_of_ble_eq_true rfl) ?_
  intro p e s m below meth c A H locs ls C hr hlocks hEx hK hG hA hP hD hS hl
  obtain ⟨hx, hb, hml, hown, hts⟩ := id C
  have hts := fun w (h9 : w ∈ gW) => hts w (List.mem_cons_of_mem _ h9)
  have hto := fun w (h9 : w ∈ gWo) => hts w (gWo_in w h9)
  have hl : lv_has ls 5 [(0, .ref h), (1, .int p0), (2, .int p1)] := hl
  dsimp only [wp_X_recall] at hw
  refine lv_aload_n hx hb dX_recall_0 rfl (lv_at hl 0 rfl) ?_
  refine lv_iload_n hx hb dX_recall_1 rfl (lv_at hl 1 rfl) ?_
  refine gk_xv (wr := []) (wc := XW cI cL cZ h a S) (wfc := XW cI cL cZ h a) hP hD hS hA (vx_runV (As := [.int p0]) (rest := []) C (c_X_needDefect l hl9 D cI cL cZ h a _ _ p0 S hw H.size) (cwV 1 hts (gGV (by decide +kernel) kX_needDefect) rfl rfl rfl (by decide +kernel) ⟨Nat.le_of_ble_eq_true rfl, Nat.le_of_ble_eq_true rfl⟩) (g_preV (wr := []) (wc := XW cI cL cZ h a S) (ci := 1) hK hG hA hP hD hS rfl (XWc_0 cI cL cZ h a S) rfl) rfl rfl hl.1 rfl (lv_room (Nat.le_of_ble_eq_true rfl)) dX_recall_2 ⟨Nat.le_of_ble_eq_true rfl, Nat.le_of_ble_eq_true rfl⟩) (fun E S1 ce q9 H locs hw hP hD hS hce hcv hcl => ?_) (fun  S1 H locs hw hP hD hS => ?_)
  · exact gx_out hEx hlocks hce hcv hcl hK hw hP hD hS (Nat.le_of_ble_eq_true rfl) (Nat.le_of_ble_eq_true rfl)
  have hP : va_P D vwCl (XW cI cL cZ h a S1) H := hP
  have hD : va_D A (XW cI cL cZ h a S1) := hD
  refine lv_iload_n hx hb dX_recall_5 rfl (lv_at hl 2 rfl) ?_
  refine lv_if_ge (tgt := 19) hx hb dX_recall_6 (by decide) (fun c2 => ?_) (fun c2 => ?_)
  · have hw := hw.1 c2
    refine lv_aload_n hx hb dX_recall_19 rfl (lv_at hl 0 rfl) ?_
    refine lv_iload_n hx hb dX_recall_20 rfl (lv_at hl 1 rfl) ?_
    refine gk_v (wr := []) (wc := XW cI cL cZ h a S1) (wfc := XW cI cL cZ h a) hP hD hS hA (va_runV (As := [.int p0]) (rest := []) C (c_X_follow l hl9 D cI cL cZ h a _ p0 S1 hw H.size) (cwV 1 hts (gGV (by decide +kernel) kX_follow) rfl rfl rfl (by decide +kernel) ⟨Nat.le_of_ble_eq_true rfl, Nat.le_of_ble_eq_true rfl⟩) (g_preV (wr := []) (wc := XW cI cL cZ h a S1) (ci := 1) hK hG hA hP hD hS rfl (XWc_0 cI cL cZ h a S1) rfl) rfl rfl hl.1 rfl (lv_room (Nat.le_of_ble_eq_true rfl)) dX_recall_21 ⟨Nat.le_of_ble_eq_true rfl, Nat.le_of_ble_eq_true rfl⟩) (fun  S3 H locs hw hP hD hS => ?_)
    have hP : va_P D vwCl (XW cI cL cZ h a S3) H := hP
    have hD : va_D A (XW cI cL cZ h a S3) := hD
    refine lv_iconst (v := 0) hx hb dX_recall_24 (by decide) ?_
    refine lv_istore_n (lv' := [(3, .int 0), (0, .ref h), (1, .int p0), (2, .int p1)]) hx hb dX_recall_25 rfl hl (by decide) rfl (fun ls hl => ?_)
    refine lv_iconst (v := 0) hx hb dX_recall_26 (by decide) ?_
    refine lv_istore (lv' := [(4, .int 0), (3, .int 0), (0, .ref h), (1, .int p0), (2, .int p1)]) hx hb dX_recall_27 hl (by decide) rfl (fun ls hl => ?_)
    obtain ⟨n, hw⟩ := hw
    have hL : ∀ (n : Nat) (S : XSt) (u3 : Int32) (u4 : Int32) (H : Heap) (locs : List Loc) (ls : Array Slot), wpL_X_recall_29 post xp p0 p1 n S u3 u4 → va_P D vwCl (XW cI cL cZ h a S) H → va_D A (XW cI cL cZ h a S) → va_S A s.heap H locs → lv_has ls 5 [(3, .int u3), (4, .int u4), (0, .ref h), (2, .int p1)] → W p l e (headSpec wsX_recall { frames := 7, cells := 1, slots := 6, locals := 103 }).room s m ([.ref h, .int p0, .int p1] : List Value).toArray below meth c H locs 0 0 (vx_MQ below (gT (gQi D [(cI, .int), (cL, .long), (cZ, .boolean)] (XW cI cL cZ h a) post A) A) (gXC D [(cI, .int), (cL, .long), (cZ, .boolean)] (XW cI cL cZ h a) xp A) ([.ref h, .int p0, .int p1] : List Value).toArray s 1 6 A) (F0 m 29 ls []) := by
      intro n
      induction n with
      | zero => intro S u3 u4 H locs ls hw; exact hw.elim
      | succ n ih =>
        intro S u3 u4 H locs ls hw hP hD hS hl
        dsimp only [wpL_X_recall_29] at hw
        refine lv_iload hx hb dX_recall_29 (lv_at hl 1 rfl) ?_
        refine lv_aload_n hx hb dX_recall_31 rfl (lv_at hl 2 rfl) ?_
        refine va_get (ci := 1) (v := .int (xpc S)) (C := RX9) (T := TX9) (N := 20) hx hb hts iX9 hown hK hP 0 (XWc_0 cI cL cZ h a S) rfl 10 (by decide) (hto (.fieldLink RX9 157 "PieceTrace" "pieceCount" "I") (by decide +kernel)) (fun _ h9 => h9) rfl dX_recall_32 ?_
        refine lv_icmp_ge (tgt := 76) hx hb dX_recall_35 (by decide) (fun c4 => ?_) (fun c4 => ?_)
        · have hw := hw.1 c4
          refine lv_iconst (v := -1) hx hb dX_recall_76 (by decide) ?_
          exact gx_i hx hb hr hlocks hK hP hD hS hw dX_recall_77
        · have hw := hw.2 c4
          refine lv_aload_n hx hb dX_recall_38 rfl (lv_at hl 2 rfl) ?_
          refine lv_iload hx hb dX_recall_39 (lv_at hl 1 rfl) ?_
          refine gk_z (wr := []) (wc := XW cI cL cZ h a S) (wfc := XW cI cL cZ h a) hP hD hS hA (va_runV (As := [.int u4]) (rest := []) C (c_X_isLive l hl9 D cI cL cZ h a _ u4 S hw H.size) (cwV 1 hts (gGV (by decide +kernel) kX_isLive) rfl rfl rfl (by decide +kernel) ⟨Nat.le_of_ble_eq_true rfl, Nat.le_of_ble_eq_true rfl⟩) (g_preV (wr := []) (wc := XW cI cL cZ h a S) (ci := 1) hK hG hA hP hD hS rfl (XWc_0 cI cL cZ h a S) rfl) rfl rfl hl.1 rfl (lv_room (Nat.le_of_ble_eq_true rfl)) dX_recall_41 ⟨Nat.le_of_ble_eq_true rfl, Nat.le_of_ble_eq_true rfl⟩) (fun r6 S5 hbr6 H locs hw hP hD hS => ?_)
          have hP : va_P D vwCl (XW cI cL cZ h a S5) H := hP
          have hD : va_D A (XW cI cL cZ h a S5) := hD
          refine lv_if_eq (tgt := 70) hx hb dX_recall_44 (by decide) (fun c7 => ?_) (fun c7 => ?_)
          · have hw := hw.1 c7
            obtain ⟨v4_8, ev4_8⟩ : ∃ y : Int32, y = u4 + 1 := ⟨_, rfl⟩
            have hw := hw v4_8 ev4_8
            refine lv_iinc (v := v4_8) (lv' := [(4, .int v4_8), (3, .int u3), (0, .ref h), (2, .int p1)]) hx hb dX_recall_70 hl (k := 1) rfl (by rw [ev4_8]; rfl) (by decide) rfl (fun ls hl => ?_)
            refine lv_goto (tgt := 29) hx hb dX_recall_73 (by decide) ?_
            refine W.widen (k := 0) (n := 0) (Nat.le_of_ble_eq_true rfl) (Nat.le_of_ble_eq_true rfl) ?_
            exact ih S5 u3 v4_8 H locs ls hw hP hD hS (lv_sub hl [1, 0, 2, 3] rfl)
          · have hw := hw.2 c7
            refine lv_aload_n hx hb dX_recall_47 rfl (lv_at hl 2 rfl) ?_
            refine va_get (ci := 1) (v := .ref (a 14)) (C := RX9) (T := TX9) (N := 20) hx hb hts iX9 hown hK hP 0 (XWc_0 cI cL cZ h a S5) rfl 19 (by decide) (hto (.fieldLink RX9 60 "PieceTrace" "foundLowers" "[J") (by decide +kernel)) (fun _ h9 => h9) rfl dX_recall_48 ?_
            refine lv_iload hx hb dX_recall_51 (lv_at hl 1 rfl) ?_
            obtain ⟨hi9, hw⟩ := hw
            refine va_lald (f := (xFL S5)) hx hb hK hP 15 1 (XWc_15 cI cL cZ h a S5) rfl hi9 dX_recall_53 ?_
            refine lv_lconst (v := 0) hx hb dX_recall_54 (by decide) ?_
            refine W.lcmp hx hb dX_recall_55 ?_
            refine lv_if_eq (tgt := 70) hx hb dX_recall_56 (by decide) (fun c10 => ?_) (fun c10 => ?_)
            · have c10 : (xFL S5 u4.toNatClampNeg) = 0 := (lg_cmp_eq _ _).mp c10
              have hw := hw.1 c10
              obtain ⟨v4_11, ev4_11⟩ : ∃ y : Int32, y = u4 + 1 := ⟨_, rfl⟩
              have hw := hw v4_11 ev4_11
              refine lv_iinc (v := v4_11) (lv' := [(4, .int v4_11), (3, .int u3), (0, .ref h), (2, .int p1)]) hx hb dX_recall_70 hl (k := 1) rfl (by rw [ev4_11]; rfl) (by decide) rfl (fun ls hl => ?_)
              refine lv_goto (tgt := 29) hx hb dX_recall_73 (by decide) ?_
              refine W.widen (k := 0) (n := 0) (Nat.le_of_ble_eq_true rfl) (Nat.le_of_ble_eq_true rfl) ?_
              exact ih S5 u3 v4_11 H locs ls hw hP hD hS (lv_sub hl [1, 0, 2, 3] rfl)
            · have c10 : ¬ (xFL S5 u4.toNatClampNeg) = 0 := fun h9 => c10 ((lg_cmp_eq _ _).mpr h9)
              have hw := hw.2 c10
              refine lv_iload_n hx hb dX_recall_59 rfl (lv_at hl 0 rfl) ?_
              refine lv_iload_n hx hb dX_recall_60 rfl (lv_at hl 3 rfl) ?_
              refine lv_icmp_ne (tgt := 67) hx hb dX_recall_61 (by decide) (fun c12 => ?_) (fun c12 => ?_)
              · have hw := hw.2 c12
                obtain ⟨v3_13, ev3_13⟩ : ∃ y : Int32, y = u3 + 1 := ⟨_, rfl⟩
                have hw := hw v3_13 ev3_13
                refine lv_iinc (v := v3_13) (lv' := [(3, .int v3_13), (4, .int u4), (0, .ref h), (2, .int p1)]) hx hb dX_recall_67 hl (k := 0) rfl (by rw [ev3_13]; rfl) (by decide) rfl (fun ls hl => ?_)
                obtain ⟨v4_14, ev4_14⟩ : ∃ y : Int32, y = u4 + 1 := ⟨_, rfl⟩
                have hw := hw v4_14 ev4_14
                refine lv_iinc (v := v4_14) (lv' := [(4, .int v4_14), (3, .int v3_13), (0, .ref h), (2, .int p1)]) hx hb dX_recall_70 hl (k := 1) rfl (by rw [ev4_14]; rfl) (by decide) rfl (fun ls hl => ?_)
                refine lv_goto (tgt := 29) hx hb dX_recall_73 (by decide) ?_
                refine W.widen (k := 0) (n := 0) (Nat.le_of_ble_eq_true rfl) (Nat.le_of_ble_eq_true rfl) ?_
                exact ih S5 v3_13 v4_14 H locs ls hw hP hD hS (lv_sub hl [1, 0, 2, 3] rfl)
              · have hw := hw.1 c12
                refine lv_iload hx hb dX_recall_64 (lv_at hl 1 rfl) ?_
                exact gx_i hx hb hr hlocks hK hP hD hS hw dX_recall_66
    refine W.widen (k := 0) (n := 0) (Nat.le_of_ble_eq_true rfl) (Nat.le_of_ble_eq_true rfl) ?_
    exact hL n S3 0 0 H locs ls hw hP hD hS (lv_sub hl [1, 0, 2, 4] rfl)
  · have hw := hw.2 c2
    exact g_throw (own := RX9) (cls := "java/lang/IndexOutOfBoundsException") (text := "k is below 0") hx hb hl9 hown (hto (.classLink RX9 86 "java/lang/IndexOutOfBoundsException") (by decide +kernel)) (hto (.initialized "java/lang/IndexOutOfBoundsException") (by decide +kernel)) (hG.2.2.1 (RX9, 155, "k is below 0") (by decide +kernel)) (g_at_IOB hts hG) gF_IOB gN_ gO_IOB_86 hG hK hP hD hS (hl.1.trans hml.symm) dX_recall_9 dX_recall_12 dX_recall_13 dX_recall_15 dX_recall_18 hEx (Nat.le_of_ble_eq_true rfl) (Nat.le_of_ble_eq_true rfl) (Nat.le_of_ble_eq_true rfl) (Nat.le_of_ble_eq_true rfl) hlocks hw (Nat.le_of_ble_eq_true rfl) (Nat.le_of_ble_eq_true rfl)
def wp_X_told (post : Int64 → XSt → Prop) (xp : String → XSt → Prop) (p0 : Int32) (S : XSt) : Prop := ((p0 = 0 → (wp_X_liveWeight (fun r3 S2 => (post r3 S2))  S)) ∧ (¬ p0 = 0 → ((p0 = 1 → (post ((xhp S).toInt64) S)) ∧ (¬ p0 = 1 → ((p0 = 2 → (post (xml S) S)) ∧ (¬ p0 = 2 → (xp "java/lang/IndexOutOfBoundsException" S)))))))
set_option maxHeartbeats 4000000 in
set_option maxRecDepth 100000 in
theorem c_X_told (l : Launch) (hl9 : l.stackTraces = false) (D : va_G) (cI cL cZ : ClassId) (h : Nat) (a : Nat → Nat) (post : Int64 → XSt → Prop) (xp : String → XSt → Prop) (p0 : Int32) (S : XSt) (hw : wp_X_told post xp p0 S) : gXl l yX_told wsX_told ({ frames := 6, cells := 1, slots := 6, locals := 82 }) D [(cI, .int), (cL, .long), (cZ, .boolean)] [.ref h, .int p0] (XW cI cL cZ h a S) (XW cI cL cZ h a) post xp := by
  refine g_ofXl (cc := cX_told) (maxL := 2) (ret := (some .long)) (own := RX9) (by decide) rfl rfl (Nat.le_of_ble_eq_true rfl) ?_
  intro p e s m below meth c A H locs ls C hr hlocks hEx hK hG hA hP hD hS hl
  obtain ⟨hx, hb, hml, hown, hts⟩ := id C
  have hts := fun w (h9 : w ∈ gW) => hts w (List.mem_cons_of_mem _ h9)
  have hto := fun w (h9 : w ∈ gWo) => hts w (gWo_in w h9)
  have hl : lv_has ls 2 [(0, .ref h), (1, .int p0)] := hl
  dsimp only [wp_X_told] at hw
  refine lv_iload_n hx hb dX_told_0 rfl (lv_at hl 1 rfl) ?_
  by_cases c1 : p0 = 0
  · have hw := hw.1 c1
    refine lv_tableIn (off := 27) (tgt := 28) hx hb dX_told_1 (by rw [c1]; decide) (by rw [c1]; decide) (by rw [c1]; rfl) (by decide) ?_
    refine lv_aload_n hx hb dX_told_28 rfl (lv_at hl 0 rfl) ?_
    refine gk_l (wr := []) (wc := XW cI cL cZ h a S) (wfc := XW cI cL cZ h a) hP hD hS hA (va_runV (As := []) (rest := []) C (c_X_liveWeight l hl9 D cI cL cZ h a _  S hw H.size) (cwV 0 hts (gGV (by decide +kernel) kX_liveWeight) rfl rfl rfl (by decide +kernel) ⟨Nat.le_of_ble_eq_true rfl, Nat.le_of_ble_eq_true rfl⟩) (g_preV (wr := []) (wc := XW cI cL cZ h a S) (ci := 1) hK hG hA hP hD hS rfl (XWc_0 cI cL cZ h a S) rfl) rfl rfl hl.1 rfl (lv_room (Nat.le_of_ble_eq_true rfl)) dX_told_29 ⟨Nat.le_of_ble_eq_true rfl, Nat.le_of_ble_eq_true rfl⟩) (fun r3 S2 H locs hw hP hD hS => ?_)
    have hP : va_P D vwCl (XW cI cL cZ h a S2) H := hP
    have hD : va_D A (XW cI cL cZ h a S2) := hD
    exact gx_l hx hb hr hlocks hK hP hD hS hw dX_told_32
  have hw := hw.2 c1
  by_cases c4 : p0 = 1
  · have hw := hw.1 c4
    refine lv_tableIn (off := 32) (tgt := 33) hx hb dX_told_1 (by rw [c4]; decide) (by rw [c4]; decide) (by rw [c4]; rfl) (by decide) ?_
    refine lv_aload_n hx hb dX_told_33 rfl (lv_at hl 0 rfl) ?_
    refine va_get (ci := 1) (v := .int (xhp S)) (C := RX9) (T := TX9) (N := 20) hx hb hts iX9 hown hK hP 0 (XWc_0 cI cL cZ h a S) rfl 15 (by decide) (hto (.fieldLink RX9 115 "PieceTrace" "heap" "I") (by decide +kernel)) (fun _ h9 => h9) rfl dX_told_34 ?_
    refine lv_i2l (v := (xhp S).toInt64) hx hb dX_told_37 rfl ?_
    exact gx_l hx hb hr hlocks hK hP hD hS hw dX_told_38
  have hw := hw.2 c4
  by_cases c5 : p0 = 2
  · have hw := hw.1 c5
    refine lv_tableIn (off := 38) (tgt := 39) hx hb dX_told_1 (by rw [c5]; decide) (by rw [c5]; decide) (by rw [c5]; rfl) (by decide) ?_
    refine lv_aload_n hx hb dX_told_39 rfl (lv_at hl 0 rfl) ?_
    refine va_get (ci := 1) (v := .long (xml S)) (C := RX9) (T := TX9) (N := 20) hx hb hts iX9 hown hK hP 0 (XWc_0 cI cL cZ h a S) rfl 16 (by decide) (hto (.fieldLink RX9 72 "PieceTrace" "melted" "J") (by decide +kernel)) (fun _ h9 => h9) rfl dX_told_40 ?_
    exact gx_l hx hb hr hlocks hK hP hD hS hw dX_told_43
  have hw := hw.2 c5
  have nc1 := lv_neT (a := 0) c1 (by decide)
  have nc4 := lv_neT (a := 1) c4 (by decide)
  have nc5 := lv_neT (a := 2) c5 (by decide)
  refine lv_tableOut (tgt := 44) hx hb dX_told_1 (by omega) (by decide) ?_
  exact g_throw (own := RX9) (cls := "java/lang/IndexOutOfBoundsException") (text := "no such what") hx hb hl9 hown (hto (.classLink RX9 86 "java/lang/IndexOutOfBoundsException") (by decide +kernel)) (hto (.initialized "java/lang/IndexOutOfBoundsException") (by decide +kernel)) (hG.2.2.1 (RX9, 127, "no such what") (by decide +kernel)) (g_at_IOB hts hG) gF_IOB gN_ gO_IOB_86 hG hK hP hD hS (hl.1.trans hml.symm) dX_told_44 dX_told_47 dX_told_48 dX_told_50 dX_told_53 hEx (Nat.le_of_ble_eq_true rfl) (Nat.le_of_ble_eq_true rfl) (Nat.le_of_ble_eq_true rfl) (Nat.le_of_ble_eq_true rfl) hlocks hw (Nat.le_of_ble_eq_true rfl) (Nat.le_of_ble_eq_true rfl)
