def wp_X_melt (post : Int32 → XSt → Prop) (xp : String → XSt → Prop) (p0 : Int32) (p1 : Int32) (S : XSt) : Prop := (wp_X_needWithin (fun  S1 => (wp_X_needWithin (fun  S2 => (wp_X_needRoom (fun  S3 => (∀ S4 : XSt, S4 = xsml S3 ((xml S3) + p0.toInt64) → (wp_X_addPiece (fun r6 S5 => (post r6 S5)) 0 (-1) p0 p1 S4))) xp 1 S2)) xp p1 1 1000000 S1)) xp p0 1 1000000 S)
set_option maxHeartbeats 4000000 in
set_option maxRecDepth 100000 in
theorem c_X_melt (l : Launch) (hl9 : l.stackTraces = false) (D : va_G) (cI cL cZ : ClassId) (h : Nat) (a : Nat → Nat) (post : Int32 → XSt → Prop) (xp : String → XSt → Prop) (p0 : Int32) (p1 : Int32) (S : XSt) (hw : wp_X_melt post xp p0 p1 S) : gXi l yX_melt wsX_melt ({ frames := 7, cells := 1, slots := 6, locals := 104 }) D [(cI, .int), (cL, .long), (cZ, .boolean)] [.ref h, .int p0, .int p1] (XW cI cL cZ h a S) (XW cI cL cZ h a) post xp := by
  refine g_ofXi (cc := cX_melt) (maxL := 3) (ret := (some .int)) (own := RX9) (by decide) rfl rfl (Nat.le_of_ble_eq_true rfl) ?_
  intro p e s m below meth c A H locs ls C hr hlocks hEx hK hG hA hP hD hS hl
  obtain ⟨hx, hb, hml, hown, hts⟩ := id C
  have hts := fun w (h9 : w ∈ gW) => hts w (List.mem_cons_of_mem _ h9)
  have hto := fun w (h9 : w ∈ gWo) => hts w (gWo_in w h9)
  have hl : lv_has ls 3 [(0, .ref h), (1, .int p0), (2, .int p1)] := hl
  dsimp only [wp_X_melt] at hw
  refine lv_iload_n hx hb dX_melt_0 rfl (lv_at hl 1 rfl) ?_
  refine lv_iconst (v := 1) hx hb dX_melt_1 (by decide) ?_
  refine lv_ldc (v := 1000000) hx hb hown (hto (.constant RX9 63 1000000) (by decide +kernel)) dX_melt_2 ?_
  refine gk_xv (wr := []) (wc := XW cI cL cZ h a S) (wfc := XW cI cL cZ h a) hP hD hS hA (vx_runS (As := [.int p0, .int 1, .int 1000000]) (rest := []) C (c_X_needWithin l hl9 D cI cL cZ h a _ _ p0 1 1000000 S hw H.size) (va_cwS 3 hts (gGS (by decide +kernel) kX_needWithin) rfl rfl rfl (by decide +kernel) ⟨Nat.le_of_ble_eq_true rfl, Nat.le_of_ble_eq_true rfl⟩) (g_preS (wr := []) (wc := XW cI cL cZ h a S) hK hG hA hP hD hS) rfl rfl hl.1 rfl (lv_room (Nat.le_of_ble_eq_true rfl)) dX_melt_4 ⟨Nat.le_of_ble_eq_true rfl, Nat.le_of_ble_eq_true rfl⟩) (fun E S1 ce q9 H locs hw hP hD hS hce hcv hcl => ?_) (fun  S1 H locs hw hP hD hS => ?_)
  · exact gx_out hEx hlocks hce hcv hcl hK hw hP hD hS (Nat.le_of_ble_eq_true rfl) (Nat.le_of_ble_eq_true rfl)
  have hP : va_P D vwCl (XW cI cL cZ h a S1) H := hP
  have hD : va_D A (XW cI cL cZ h a S1) := hD
  refine lv_iload_n hx hb dX_melt_7 rfl (lv_at hl 2 rfl) ?_
  refine lv_iconst (v := 1) hx hb dX_melt_8 (by decide) ?_
  refine lv_ldc (v := 1000000) hx hb hown (hto (.constant RX9 63 1000000) (by decide +kernel)) dX_melt_9 ?_
  refine gk_xv (wr := []) (wc := XW cI cL cZ h a S1) (wfc := XW cI cL cZ h a) hP hD hS hA (vx_runS (As := [.int p1, .int 1, .int 1000000]) (rest := []) C (c_X_needWithin l hl9 D cI cL cZ h a _ _ p1 1 1000000 S1 hw H.size) (va_cwS 3 hts (gGS (by decide +kernel) kX_needWithin) rfl rfl rfl (by decide +kernel) ⟨Nat.le_of_ble_eq_true rfl, Nat.le_of_ble_eq_true rfl⟩) (g_preS (wr := []) (wc := XW cI cL cZ h a S1) hK hG hA hP hD hS) rfl rfl hl.1 rfl (lv_room (Nat.le_of_ble_eq_true rfl)) dX_melt_11 ⟨Nat.le_of_ble_eq_true rfl, Nat.le_of_ble_eq_true rfl⟩) (fun E S2 ce q9 H locs hw hP hD hS hce hcv hcl => ?_) (fun  S2 H locs hw hP hD hS => ?_)
  · exact gx_out hEx hlocks hce hcv hcl hK hw hP hD hS (Nat.le_of_ble_eq_true rfl) (Nat.le_of_ble_eq_true rfl)
  have hP : va_P D vwCl (XW cI cL cZ h a S2) H := hP
  have hD : va_D A (XW cI cL cZ h a S2) := hD
  refine lv_aload_n hx hb dX_melt_14 rfl (lv_at hl 0 rfl) ?_
  refine lv_iconst (v := 1) hx hb dX_melt_15 (by decide) ?_
  refine gk_xv (wr := []) (wc := XW cI cL cZ h a S2) (wfc := XW cI cL cZ h a) hP hD hS hA (vx_runV (As := [.int 1]) (rest := []) C (c_X_needRoom l hl9 D cI cL cZ h a _ _ 1 S2 hw H.size) (cwV 1 hts (gGV (by decide +kernel) kX_needRoom) rfl rfl rfl (by decide +kernel) ⟨Nat.le_of_ble_eq_true rfl, Nat.le_of_ble_eq_true rfl⟩) (g_preV (wr := []) (wc := XW cI cL cZ h a S2) (ci := 1) hK hG hA hP hD hS rfl (XWc_0 cI cL cZ h a S2) rfl) rfl rfl hl.1 rfl (lv_room (Nat.le_of_ble_eq_true rfl)) dX_melt_16 ⟨Nat.le_of_ble_eq_true rfl, Nat.le_of_ble_eq_true rfl⟩) (fun E S3 ce q9 H locs hw hP hD hS hce hcv hcl => ?_) (fun  S3 H locs hw hP hD hS => ?_)
  · exact gx_out hEx hlocks hce hcv hcl hK hw hP hD hS (Nat.le_of_ble_eq_true rfl) (Nat.le_of_ble_eq_true rfl)
  have hP : va_P D vwCl (XW cI cL cZ h a S3) H := hP
  have hD : va_D A (XW cI cL cZ h a S3) := hD
  refine lv_aload_n hx hb dX_melt_19 rfl (lv_at hl 0 rfl) ?_
  refine lv_dup hx hb dX_melt_20 rfl ?_
  refine va_get (ci := 1) (v := .long (xml S3)) (C := RX9) (T := TX9) (N := 20) hx hb hts iX9 hown hK hP 0 (XWc_0 cI cL cZ h a S3) rfl 16 (by decide) (hto (.fieldLink RX9 72 "PieceTrace" "melted" "J") (by decide +kernel)) (fun _ h9 => h9) rfl dX_melt_21 ?_
  refine lv_iload_n hx hb dX_melt_24 rfl (lv_at hl 1 rfl) ?_
  refine lv_i2l (v := p0.toInt64) hx hb dX_melt_25 rfl ?_
  refine lv_ladd hx hb dX_melt_26 ?_
  refine g_put (wf := XW cI cL cZ h a) (S' := xsml S3 ((xml S3) + p0.toInt64)) (ci := 1) (v := .long ((xml S3) + p0.toInt64)) (ty := .long) (C := RX9) (T := TX9) (N := 20) hx hb hts iX9 tyX9 tyX9_ok nmX9 hown hK hP hD hS 0 (XWc_0 cI cL cZ h a S3) rfl 16 (by decide) (hto (.fieldLink RX9 72 "PieceTrace" "melted" "J") (by decide +kernel)) (fun _ h9 => h9) rfl (by decide +kernel) rfl rfl (Nat.le_of_ble_eq_true rfl) rfl dX_melt_27 (fun S4 eS4 H locs hP hD hS => ?_)
  have hw := hw S4 eS4
  refine lv_aload_n hx hb dX_melt_30 rfl (lv_at hl 0 rfl) ?_
  refine lv_iconst (v := 0) hx hb dX_melt_31 (by decide) ?_
  refine lv_iconst (v := -1) hx hb dX_melt_32 (by decide) ?_
  refine lv_iload_n hx hb dX_melt_33 rfl (lv_at hl 1 rfl) ?_
  refine lv_iload_n hx hb dX_melt_34 rfl (lv_at hl 2 rfl) ?_
  refine gk_i (wr := []) (wc := XW cI cL cZ h a S4) (wfc := XW cI cL cZ h a) hP hD hS hA (va_runV (As := [.int 0, .int (-1), .int p0, .int p1]) (rest := []) C (c_X_addPiece l hl9 D cI cL cZ h a _ 0 (-1) p0 p1 S4 hw H.size) (cwV 4 hts (gGV (by decide +kernel) kX_addPiece) rfl rfl rfl (by decide +kernel) ⟨Nat.le_of_ble_eq_true rfl, Nat.le_of_ble_eq_true rfl⟩) (g_preV (wr := []) (wc := XW cI cL cZ h a S4) (ci := 1) hK hG hA hP hD hS rfl (XWc_0 cI cL cZ h a S4) rfl) rfl rfl hl.1 rfl (lv_room (Nat.le_of_ble_eq_true rfl)) dX_melt_35 ⟨Nat.le_of_ble_eq_true rfl, Nat.le_of_ble_eq_true rfl⟩) (fun r6 S5 H locs hw hP hD hS => ?_)
  have hP : va_P D vwCl (XW cI cL cZ h a S5) H := hP
  have hD : va_D A (XW cI cL cZ h a S5) := hD
  exact gx_i hx hb hr hlocks hK hP hD hS hw dX_melt_38
def wp_X_cut (post : Int32 → XSt → Prop) (xp : String → XSt → Prop) (p0 : Int32) (p1 : Int32) (S : XSt) : Prop := (wp_X_needPiece (fun  S1 => (wp_X_needFree (fun  S2 => (vp_in p0 40 ∧ (∀ v3_4 : Int32, v3_4 = (xLe S2 p0.toNatClampNeg) → (wp_X_needWithin (fun  S5 => (wp_X_needRoom (fun  S6 => (vp_in p0 40 ∧ (∀ v4_8 : Int32, v4_8 = (xWe S6 p0.toNatClampNeg) → (¬ v3_4.toInt64 = 0 ∧ (∀ v5_10 : Int32, v5_10 = ((v4_8.toInt64 * p1.toInt64) / v3_4.toInt64).toInt32 → (vp_in p0 40 ∧ (∀ S12 : XSt, S12 = xuSt S6 p0 1 → (wp_X_addPiece (fun r14 S13 => (wp_X_addPiece (fun r16 S15 => (vp_in r14 40 ∧ (∀ S18 : XSt, S18 = xuSm S15 r14 p1 → (vp_in r16 40 ∧ (∀ S20 : XSt, S20 = xuSm S18 r16 p1 → (post r14 S20)))))) 2 p0 (v4_8 - v5_10) (v3_4 - p1) S13)) 1 p0 v5_10 p1 S12)))))))) xp 2 S5)) xp p1 1 (v3_4 - 1) S2)))) xp p0 S1)) xp p0 S)
set_option maxHeartbeats 4000000 in
set_option maxRecDepth 100000 in
theorem c_X_cut (l : Launch) (hl9 : l.stackTraces = false) (D : va_G) (cI cL cZ : ClassId) (h : Nat) (a : Nat → Nat) (post : Int32 → XSt → Prop) (xp : String → XSt → Prop) (p0 : Int32) (p1 : Int32) (S : XSt) (hw : wp_X_cut post xp p0 p1 S) : gXi l yX_cut wsX_cut ({ frames := 7, cells := 1, slots := 6, locals := 104 }) D [(cI, .int), (cL, .long), (cZ, .boolean)] [.ref h, .int p0, .int p1] (XW cI cL cZ h a S) (XW cI cL cZ h a) post xp := by
  refine g_ofXi (cc := cX_cut) (maxL := 8) (ret := (some .int)) (own := RX9) (by decide) rfl rfl (Nat.le_of_ble_eq_true rfl) ?_
  intro p e s m below meth c A H locs ls C hr hlocks hEx hK hG hA hP hD hS hl
  obtain ⟨hx, hb, hml, hown, hts⟩ := id C
  have hts := fun w (h9 : w ∈ gW) => hts w (List.mem_cons_of_mem _ h9)
  have hto := fun w (h9 : w ∈ gWo) => hts w (gWo_in w h9)
  have hl : lv_has ls 8 [(0, .ref h), (1, .int p0), (2, .int p1)] := hl
  dsimp only [wp_X_cut] at hw
  refine lv_aload_n hx hb dX_cut_0 rfl (lv_at hl 0 rfl) ?_
  refine lv_iload_n hx hb dX_cut_1 rfl (lv_at hl 1 rfl) ?_
  refine gk_xv (wr := []) (wc := XW cI cL cZ h a S) (wfc := XW cI cL cZ h a) hP hD hS hA (vx_runV (As := [.int p0]) (rest := []) C (c_X_needPiece l hl9 D cI cL cZ h a _ _ p0 S hw H.size) (cwV 1 hts (gGV (by decide +kernel) kX_needPiece) rfl rfl rfl (by decide +kernel) ⟨Nat.le_of_ble_eq_true rfl, Nat.le_of_ble_eq_true rfl⟩) (g_preV (wr := []) (wc := XW cI cL cZ h a S) (ci := 1) hK hG hA hP hD hS rfl (XWc_0 cI cL cZ h a S) rfl) rfl rfl hl.1 rfl (lv_room (Nat.le_of_ble_eq_true rfl)) dX_cut_2 ⟨Nat.le_of_ble_eq_true rfl, Nat.le_of_ble_eq_true rfl⟩) (fun E S1 ce q9 H locs hw hP hD hS hce hcv hcl => ?_) (fun  S1 H locs hw hP hD hS => ?_)
  · exact gx_out hEx hlocks hce hcv hcl hK hw hP hD hS (Nat.le_of_ble_eq_true rfl) (Nat.le_of_ble_eq_true rfl)
  have hP : va_P D vwCl (XW cI cL cZ h a S1) H := hP
  have hD : va_D A (XW cI cL cZ h a S1) := hD
  refine lv_aload_n hx hb dX_cut_5 rfl (lv_at hl 0 rfl) ?_
  refine lv_iload_n hx hb dX_cut_6 rfl (lv_at hl 1 rfl) ?_
  refine gk_xv (wr := []) (wc := XW cI cL cZ h a S1) (wfc := XW cI cL cZ h a) hP hD hS hA (vx_runV (As := [.int p0]) (rest := []) C (c_X_needFree l hl9 D cI cL cZ h a _ _ p0 S1 hw H.size) (cwV 1 hts (gGV (by decide +kernel) kX_needFree) rfl rfl rfl (by decide +kernel) ⟨Nat.le_of_ble_eq_true rfl, Nat.le_of_ble_eq_true rfl⟩) (g_preV (wr := []) (wc := XW cI cL cZ h a S1) (ci := 1) hK hG hA hP hD hS rfl (XWc_0 cI cL cZ h a S1) rfl) rfl rfl hl.1 rfl (lv_room (Nat.le_of_ble_eq_true rfl)) dX_cut_7 ⟨Nat.le_of_ble_eq_true rfl, Nat.le_of_ble_eq_true rfl⟩) (fun E S2 ce q9 H locs hw hP hD hS hce hcv hcl => ?_) (fun  S2 H locs hw hP hD hS => ?_)
  · exact gx_out hEx hlocks hce hcv hcl hK hw hP hD hS (Nat.le_of_ble_eq_true rfl) (Nat.le_of_ble_eq_true rfl)
  have hP : va_P D vwCl (XW cI cL cZ h a S2) H := hP
  have hD : va_D A (XW cI cL cZ h a S2) := hD
  refine lv_aload_n hx hb dX_cut_10 rfl (lv_at hl 0 rfl) ?_
  refine va_get (ci := 1) (v := .ref (a 2)) (C := RX9) (T := TX9) (N := 20) hx hb hts iX9 hown hK hP 0 (XWc_0 cI cL cZ h a S2) rfl 2 (by decide) (hto (.fieldLink RX9 16 "PieceTrace" "lengths" "[I") (by decide +kernel)) (fun _ h9 => h9) rfl dX_cut_11 ?_
  refine lv_iload_n hx hb dX_cut_14 rfl (lv_at hl 1 rfl) ?_
  obtain ⟨hi3, hw⟩ := hw
  refine va_iald (f := (xLe S2)) hx hb hK hP 3 0 (XWc_3 cI cL cZ h a S2) rfl hi3 dX_cut_15 ?_
  refine lv_topi (fun v3_4 ev3_4 => ?_)
  have hw := hw v3_4 ev3_4
  refine lv_istore_n (lv' := [(3, .int v3_4), (0, .ref h), (1, .int p0), (2, .int p1)]) hx hb dX_cut_16 rfl hl (by decide) rfl (fun ls hl => ?_)
  refine lv_iload_n hx hb dX_cut_17 rfl (lv_at hl 3 rfl) ?_
  refine lv_iconst (v := 1) hx hb dX_cut_18 (by decide) ?_
  refine lv_iload_n hx hb dX_cut_19 rfl (lv_at hl 0 rfl) ?_
  refine lv_iconst (v := 1) hx hb dX_cut_20 (by decide) ?_
  refine lv_isub hx hb dX_cut_21 ?_
  refine gk_xv (wr := []) (wc := XW cI cL cZ h a S2) (wfc := XW cI cL cZ h a) hP hD hS hA (vx_runS (As := [.int p1, .int 1, .int (v3_4 - 1)]) (rest := []) C (c_X_needWithin l hl9 D cI cL cZ h a _ _ p1 1 (v3_4 - 1) S2 hw H.size) (va_cwS 3 hts (gGS (by decide +kernel) kX_needWithin) rfl rfl rfl (by decide +kernel) ⟨Nat.le_of_ble_eq_true rfl, Nat.le_of_ble_eq_true rfl⟩) (g_preS (wr := []) (wc := XW cI cL cZ h a S2) hK hG hA hP hD hS) rfl rfl hl.1 rfl (lv_room (Nat.le_of_ble_eq_true rfl)) dX_cut_22 ⟨Nat.le_of_ble_eq_true rfl, Nat.le_of_ble_eq_true rfl⟩) (fun E S5 ce q9 H locs hw hP hD hS hce hcv hcl => ?_) (fun  S5 H locs hw hP hD hS => ?_)
  · exact gx_out hEx hlocks hce hcv hcl hK hw hP hD hS (Nat.le_of_ble_eq_true rfl) (Nat.le_of_ble_eq_true rfl)
  have hP : va_P D vwCl (XW cI cL cZ h a S5) H := hP
  have hD : va_D A (XW cI cL cZ h a S5) := hD
  refine lv_aload_n hx hb dX_cut_25 rfl (lv_at hl 1 rfl) ?_
  refine lv_iconst (v := 2) hx hb dX_cut_26 (by decide) ?_
  refine gk_xv (wr := []) (wc := XW cI cL cZ h a S5) (wfc := XW cI cL cZ h a) hP hD hS hA (vx_runV (As := [.int 2]) (rest := []) C (c_X_needRoom l hl9 D cI cL cZ h a _ _ 2 S5 hw H.size) (cwV 1 hts (gGV (by decide +kernel) kX_needRoom) rfl rfl rfl (by decide +kernel) ⟨Nat.le_of_ble_eq_true rfl, Nat.le_of_ble_eq_true rfl⟩) (g_preV (wr := []) (wc := XW cI cL cZ h a S5) (ci := 1) hK hG hA hP hD hS rfl (XWc_0 cI cL cZ h a S5) rfl) rfl rfl hl.1 rfl (lv_room (Nat.le_of_ble_eq_true rfl)) dX_cut_27 ⟨Nat.le_of_ble_eq_true rfl, Nat.le_of_ble_eq_true rfl⟩) (fun E S6 ce q9 H locs hw hP hD hS hce hcv hcl => ?_) (fun  S6 H locs hw hP hD hS => ?_)
  · exact gx_out hEx hlocks hce hcv hcl hK hw hP hD hS (Nat.le_of_ble_eq_true rfl) (Nat.le_of_ble_eq_true rfl)
  have hP : va_P D vwCl (XW cI cL cZ h a S6) H := hP
  have hD : va_D A (XW cI cL cZ h a S6) := hD
  refine lv_aload_n hx hb dX_cut_30 rfl (lv_at hl 1 rfl) ?_
  refine va_get (ci := 1) (v := .ref (a 1)) (C := RX9) (T := TX9) (N := 20) hx hb hts iX9 hown hK hP 0 (XWc_0 cI cL cZ h a S6) rfl 1 (by decide) (hto (.fieldLink RX9 13 "PieceTrace" "weights" "[I") (by decide +kernel)) (fun _ h9 => h9) rfl dX_cut_31 ?_
  refine lv_iload_n hx hb dX_cut_34 rfl (lv_at hl 2 rfl) ?_
  obtain ⟨hi7, hw⟩ := hw
  refine va_iald (f := (xWe S6)) hx hb hK hP 2 0 (XWc_2 cI cL cZ h a S6) rfl hi7 dX_cut_35 ?_
  refine lv_topi (fun v4_8 ev4_8 => ?_)
  have hw := hw v4_8 ev4_8
  refine lv_istore (lv' := [(4, .int v4_8), (3, .int v3_4), (0, .ref h), (1, .int p0), (2, .int p1)]) hx hb dX_cut_36 hl (by decide) rfl (fun ls hl => ?_)
  refine lv_iload hx hb dX_cut_38 (lv_at hl 0 rfl) ?_
  refine lv_i2l (v := v4_8.toInt64) hx hb dX_cut_40 rfl ?_
  refine lv_iload_n hx hb dX_cut_41 rfl (lv_at hl 4 rfl) ?_
  refine lv_i2l (v := p1.toInt64) hx hb dX_cut_42 rfl ?_
  refine lv_lmul hx hb dX_cut_43 ?_
  refine lv_iload_n hx hb dX_cut_44 rfl (lv_at hl 1 rfl) ?_
  refine lv_i2l (v := v3_4.toInt64) hx hb dX_cut_45 rfl ?_
  obtain ⟨hz9, hw⟩ := hw
  refine lv_ldiv hx hb dX_cut_46 hz9 ?_
  refine lv_l2i (v := ((v4_8.toInt64 * p1.toInt64) / v3_4.toInt64).toInt32) hx hb dX_cut_47 rfl ?_
  refine lv_topi (fun v5_10 ev5_10 => ?_)
  have hw := hw v5_10 ev5_10
  refine lv_istore (lv' := [(5, .int v5_10), (4, .int v4_8), (3, .int v3_4), (0, .ref h), (1, .int p0), (2, .int p1)]) hx hb dX_cut_48 hl (by decide) rfl (fun ls hl => ?_)
  refine lv_aload_n hx hb dX_cut_50 rfl (lv_at hl 3 rfl) ?_
  refine va_get (ci := 1) (v := .ref (a 3)) (C := RX9) (T := TX9) (N := 20) hx hb hts iX9 hown hK hP 0 (XWc_0 cI cL cZ h a S6) rfl 3 (by decide) (hto (.fieldLink RX9 19 "PieceTrace" "states" "[I") (by decide +kernel)) (fun _ h9 => h9) rfl dX_cut_51 ?_
  refine lv_iload_n hx hb dX_cut_54 rfl (lv_at hl 4 rfl) ?_
  refine lv_iconst (v := 1) hx hb dX_cut_55 (by decide) ?_
  obtain ⟨hi11, hw⟩ := hw
  refine g_iast (wf := XW cI cL cZ h a) (S' := xuSt S6 p0 1) hx hb hK hP hD hS 4 0 (XWc_4 cI cL cZ h a S6) rfl rfl hi11 dX_cut_56 (fun S12 eS12 H locs hP hD hS => ?_)
  have hw := hw S12 eS12
  refine lv_aload_n hx hb dX_cut_57 rfl (lv_at hl 3 rfl) ?_
  refine lv_iconst (v := 1) hx hb dX_cut_58 (by decide) ?_
  refine lv_iload_n hx hb dX_cut_59 rfl (lv_at hl 4 rfl) ?_
  refine lv_iload hx hb dX_cut_60 (lv_at hl 0 rfl) ?_
  refine lv_iload_n hx hb dX_cut_62 rfl (lv_at hl 5 rfl) ?_
  refine gk_i (wr := []) (wc := XW cI cL cZ h a S12) (wfc := XW cI cL cZ h a) hP hD hS hA (va_runV (As := [.int 1, .int p0, .int v5_10, .int p1]) (rest := []) C (c_X_addPiece l hl9 D cI cL cZ h a _ 1 p0 v5_10 p1 S12 hw H.size) (cwV 4 hts (gGV (by decide +kernel) kX_addPiece) rfl rfl rfl (by decide +kernel) ⟨Nat.le_of_ble_eq_true rfl, Nat.le_of_ble_eq_true rfl⟩) (g_preV (wr := []) (wc := XW cI cL cZ h a S12) (ci := 1) hK hG hA hP hD hS rfl (XWc_0 cI cL cZ h a S12) rfl) rfl rfl hl.1 rfl (lv_room (Nat.le_of_ble_eq_true rfl)) dX_cut_63 ⟨Nat.le_of_ble_eq_true rfl, Nat.le_of_ble_eq_true rfl⟩) (fun r14 S13 H locs hw hP hD hS => ?_)
  have hP : va_P D vwCl (XW cI cL cZ h a S13) H := hP
  have hD : va_D A (XW cI cL cZ h a S13) := hD
  refine lv_istore (lv' := [(6, .int r14), (5, .int v5_10), (4, .int v4_8), (3, .int v3_4), (0, .ref h), (1, .int p0), (2, .int p1)]) hx hb dX_cut_66 hl (by decide) rfl (fun ls hl => ?_)
  refine lv_aload_n hx hb dX_cut_68 rfl (lv_at hl 4 rfl) ?_
  refine lv_iconst (v := 2) hx hb dX_cut_69 (by decide) ?_
  refine lv_iload_n hx hb dX_cut_70 rfl (lv_at hl 5 rfl) ?_
  refine lv_iload hx hb dX_cut_71 (lv_at hl 2 rfl) ?_
  refine lv_iload hx hb dX_cut_73 (lv_at hl 1 rfl) ?_
  refine lv_isub hx hb dX_cut_75 ?_
  refine lv_iload_n hx hb dX_cut_76 rfl (lv_at hl 3 rfl) ?_
  refine lv_iload_n hx hb dX_cut_77 rfl (lv_at hl 6 rfl) ?_
  refine lv_isub hx hb dX_cut_78 ?_
  refine gk_i (wr := []) (wc := XW cI cL cZ h a S13) (wfc := XW cI cL cZ h a) hP hD hS hA (va_runV (As := [.int 2, .int p0, .int (v4_8 - v5_10), .int (v3_4 - p1)]) (rest := []) C (c_X_addPiece l hl9 D cI cL cZ h a _ 2 p0 (v4_8 - v5_10) (v3_4 - p1) S13 hw H.size) (cwV 4 hts (gGV (by decide +kernel) kX_addPiece) rfl rfl rfl (by decide +kernel) ⟨Nat.le_of_ble_eq_true rfl, Nat.le_of_ble_eq_true rfl⟩) (g_preV (wr := []) (wc := XW cI cL cZ h a S13) (ci := 1) hK hG hA hP hD hS rfl (XWc_0 cI cL cZ h a S13) rfl) rfl rfl hl.1 rfl (lv_room (Nat.le_of_ble_eq_true rfl)) dX_cut_79 ⟨Nat.le_of_ble_eq_true rfl, Nat.le_of_ble_eq_true rfl⟩) (fun r16 S15 H locs hw hP hD hS => ?_)
  have hP : va_P D vwCl (XW cI cL cZ h a S15) H := hP
  have hD : va_D A (XW cI cL cZ h a S15) := hD
  refine lv_istore (lv' := [(7, .int r16), (6, .int r14), (5, .int v5_10), (4, .int v4_8), (3, .int v3_4), (0, .ref h), (1, .int p0), (2, .int p1)]) hx hb dX_cut_82 hl (by decide) rfl (fun ls hl => ?_)
  refine lv_aload_n hx hb dX_cut_84 rfl (lv_at hl 5 rfl) ?_
  refine va_get (ci := 1) (v := .ref (a 7)) (C := RX9) (T := TX9) (N := 20) hx hb hts iX9 hown hK hP 0 (XWc_0 cI cL cZ h a S15) rfl 7 (by decide) (hto (.fieldLink RX9 31 "PieceTrace" "seams" "[I") (by decide +kernel)) (fun _ h9 => h9) rfl dX_cut_85 ?_
  refine lv_iload hx hb dX_cut_88 (lv_at hl 1 rfl) ?_
  refine lv_iload_n hx hb dX_cut_90 rfl (lv_at hl 7 rfl) ?_
  obtain ⟨hi17, hw⟩ := hw
  refine g_iast (wf := XW cI cL cZ h a) (S' := xuSm S15 r14 p1) hx hb hK hP hD hS 8 0 (XWc_8 cI cL cZ h a S15) rfl rfl hi17 dX_cut_91 (fun S18 eS18 H locs hP hD hS => ?_)
  have hw := hw S18 eS18
  refine lv_aload_n hx hb dX_cut_92 rfl (lv_at hl 5 rfl) ?_
  refine va_get (ci := 1) (v := .ref (a 7)) (C := RX9) (T := TX9) (N := 20) hx hb hts iX9 hown hK hP 0 (XWc_0 cI cL cZ h a S18) rfl 7 (by decide) (hto (.fieldLink RX9 31 "PieceTrace" "seams" "[I") (by decide +kernel)) (fun _ h9 => h9) rfl dX_cut_93 ?_
  refine lv_iload hx hb dX_cut_96 (lv_at hl 0 rfl) ?_
  refine lv_iload_n hx hb dX_cut_98 rfl (lv_at hl 7 rfl) ?_
  obtain ⟨hi19, hw⟩ := hw
  refine g_iast (wf := XW cI cL cZ h a) (S' := xuSm S18 r16 p1) hx hb hK hP hD hS 8 0 (XWc_8 cI cL cZ h a S18) rfl rfl hi19 dX_cut_99 (fun S20 eS20 H locs hP hD hS => ?_)
  have hw := hw S20 eS20
  refine lv_iload hx hb dX_cut_100 (lv_at hl 1 rfl) ?_
  exact gx_i hx hb hr hlocks hK hP hD hS hw dX_cut_102
def wp_X_weld (post : Int32 → XSt → Prop) (xp : String → XSt → Prop) (p0 : Int32) (p1 : Int32) (S : XSt) : Prop := (wp_X_needPiece (fun  S1 => (wp_X_needPiece (fun  S2 => ((p0 = p1 → (xp "java/lang/IndexOutOfBoundsException" S2)) ∧ (¬ p0 = p1 → (wp_X_needFree (fun  S4 => (wp_X_needFree (fun  S5 => (wp_X_needRoom (fun  S6 => (vp_in p0 40 ∧ (vp_in p1 40 ∧ (∀ v3_9 : Int64, v3_9 = ((xWe S6 p0.toNatClampNeg).toInt64 + (xWe S6 p1.toNatClampNeg).toInt64) → (vp_in p0 40 ∧ (vp_in p1 40 ∧ (∀ v5_12 : Int64, v5_12 = ((xLe S6 p0.toNatClampNeg).toInt64 + (xLe S6 p1.toNatClampNeg).toInt64) → ((1000000000 < v3_9 → (xp "java/lang/UnsupportedOperationException" S6)) ∧ (¬ 1000000000 < v3_9 → ((v5_12 ≤ 1000000000 → (vp_in p0 40 ∧ (∀ S16 : XSt, S16 = xuSt S6 p0 1 → (vp_in p1 40 ∧ (∀ S18 : XSt, S18 = xuSt S16 p1 1 → (wp_X_addPiece (fun r20 S19 => (vp_in r20 40 ∧ (∀ S22 : XSt, S22 = xuSe S19 r20 p1 → (vp_in p0 40 ∧ (vp_in r20 40 ∧ (∀ S25 : XSt, S25 = xuSm S22 r20 (xLe S22 p0.toNatClampNeg) → (vp_in p0 40 ∧ (vp_in p1 40 ∧ (vp_in r20 40 ∧ (∀ S29 : XSt, S29 = xuRo S25 r20 (if (xRo S25 p0.toNatClampNeg) < (xRo S25 p1.toNatClampNeg) then (xRo S25 p1.toNatClampNeg) else (xRo S25 p0.toNatClampNeg)) → (post r20 S29))))))))))) 3 p0 v3_9.toInt32 v5_12.toInt32 S18)))))) ∧ (¬ v5_12 ≤ 1000000000 → (xp "java/lang/UnsupportedOperationException" S6)))))))))))) xp 1 S5)) xp p1 S4)) xp p0 S2)))) xp p1 S1)) xp p0 S)
set_option maxHeartbeats 4000000 in
set_option maxRecDepth 100000 in
theorem c_X_weld (l : Launch) (hl9 : l.stackTraces = false) (D : va_G) (cI cL cZ : ClassId) (h : Nat) (a : Nat → Nat) (post : Int32 → XSt → Prop) (xp : String → XSt → Prop) (p0 : Int32) (p1 : Int32) (S : XSt) (hw : wp_X_weld post xp p0 p1 S) : gXi l yX_weld wsX_weld ({ frames := 7, cells := 1, slots := 6, locals := 103 }) D [(cI, .int), (cL, .long), (cZ, .boolean)] [.ref h, .int p0, .int p1] (XW cI cL cZ h a S) (XW cI cL cZ h a) post xp := by
  refine g_ofXi (cc := cX_weld) (maxL := 8) (ret := (some .int)) (own := RX9) (by decide) rfl rfl (Nat.le_of_ble_eq_true rfl) ?_
  intro p e s m below meth c A H locs ls C hr hlocks hEx hK hG hA hP hD hS hl
  obtain ⟨hx, hb, hml, hown, hts⟩ := id C
  have hts := fun w (h9 : w ∈ gW) => hts w (List.mem_cons_of_mem _ h9)
  have hto := fun w (h9 : w ∈ gWo) => hts w (gWo_in w h9)
  have hl : lv_has ls 8 [(0, .ref h), (1, .int p0), (2, .int p1)] := hl
  dsimp only [wp_X_weld] at hw
  refine lv_aload_n hx hb dX_weld_0 rfl (lv_at hl 0 rfl) ?_
  refine lv_iload_n hx hb dX_weld_1 rfl (lv_at hl 1 rfl) ?_
  refine gk_xv (wr := []) (wc := XW cI cL cZ h a S) (wfc := XW cI cL cZ h a) hP hD hS hA (vx_runV (As := [.int p0]) (rest := []) C (c_X_needPiece l hl9 D cI cL cZ h a _ _ p0 S hw H.size) (cwV 1 hts (gGV (by decide +kernel) kX_needPiece) rfl rfl rfl (by decide +kernel) ⟨Nat.le_of_ble_eq_true rfl, Nat.le_of_ble_eq_true rfl⟩) (g_preV (wr := []) (wc := XW cI cL cZ h a S) (ci := 1) hK hG hA hP hD hS rfl (XWc_0 cI cL cZ h a S) rfl) rfl rfl hl.1 rfl (lv_room (Nat.le_of_ble_eq_true rfl)) dX_weld_2 ⟨Nat.le_of_ble_eq_true rfl, Nat.le_of_ble_eq_true rfl⟩) (fun E S1 ce q9 H locs hw hP hD hS hce hcv hcl => ?_) (fun  S1 H locs hw hP hD hS => ?_)
  · exact gx_out hEx hlocks hce hcv hcl hK hw hP hD hS (Nat.le_of_ble_eq_true rfl) (Nat.le_of_ble_eq_true rfl)
  have hP : va_P D vwCl (XW cI cL cZ h a S1) H := hP
  have hD : va_D A (XW cI cL cZ h a S1) := hD
  refine lv_aload_n hx hb dX_weld_5 rfl (lv_at hl 0 rfl) ?_
  refine lv_iload_n hx hb dX_weld_6 rfl (lv_at hl 2 rfl) ?_
  refine gk_xv (wr := []) (wc := XW cI cL cZ h a S1) (wfc := XW cI cL cZ h a) hP hD hS hA (vx_runV (As := [.int p1]) (rest := []) C (c_X_needPiece l hl9 D cI cL cZ h a _ _ p1 S1 hw H.size) (cwV 1 hts (gGV (by decide +kernel) kX_needPiece) rfl rfl rfl (by decide +kernel) ⟨Nat.le_of_ble_eq_true rfl, Nat.le_of_ble_eq_true rfl⟩) (g_preV (wr := []) (wc := XW cI cL cZ h a S1) (ci := 1) hK hG hA hP hD hS rfl (XWc_0 cI cL cZ h a S1) rfl) rfl rfl hl.1 rfl (lv_room (Nat.le_of_ble_eq_true rfl)) dX_weld_7 ⟨Nat.le_of_ble_eq_true rfl, Nat.le_of_ble_eq_true rfl⟩) (fun E S2 ce q9 H locs hw hP hD hS hce hcv hcl => ?_) (fun  S2 H locs hw hP hD hS => ?_)
  · exact gx_out hEx hlocks hce hcv hcl hK hw hP hD hS (Nat.le_of_ble_eq_true rfl) (Nat.le_of_ble_eq_true rfl)
  have hP : va_P D vwCl (XW cI cL cZ h a S2) H := hP
  have hD : va_D A (XW cI cL cZ h a S2) := hD
  refine lv_iload_n hx hb dX_weld_10 rfl (lv_at hl 1 rfl) ?_
  refine lv_iload_n hx hb dX_weld_11 rfl (lv_at hl 2 rfl) ?_
  refine lv_icmp_ne (tgt := 25) hx hb dX_weld_12 (by decide) (fun c3 => ?_) (fun c3 => ?_)
  · have hw := hw.2 c3
    refine lv_aload_n hx hb dX_weld_25 rfl (lv_at hl 0 rfl) ?_
    refine lv_iload_n hx hb dX_weld_26 rfl (lv_at hl 1 rfl) ?_
    refine gk_xv (wr := []) (wc := XW cI cL cZ h a S2) (wfc := XW cI cL cZ h a) hP hD hS hA (vx_runV (As := [.int p0]) (rest := []) C (c_X_needFree l hl9 D cI cL cZ h a _ _ p0 S2 hw H.size) (cwV 1 hts (gGV (by decide +kernel) kX_needFree) rfl rfl rfl (by decide +kernel) ⟨Nat.le_of_ble_eq_true rfl, Nat.le_of_ble_eq_true rfl⟩) (g_preV (wr := []) (wc := XW cI cL cZ h a S2) (ci := 1) hK hG hA hP hD hS rfl (XWc_0 cI cL cZ h a S2) rfl) rfl rfl hl.1 rfl (lv_room (Nat.le_of_ble_eq_true rfl)) dX_weld_27 ⟨Nat.le_of_ble_eq_true rfl, Nat.le_of_ble_eq_true rfl⟩) (fun E S4 ce q9 H locs hw hP hD hS hce hcv hcl => ?_) (fun  S4 H locs hw hP hD hS => ?_)
    · exact gx_out hEx hlocks hce hcv hcl hK hw hP hD hS (Nat.le_of_ble_eq_true rfl) (Nat.le_of_ble_eq_true rfl)
    have hP : va_P D vwCl (XW cI cL cZ h a S4) H := hP
    have hD : va_D A (XW cI cL cZ h a S4) := hD
    refine lv_aload_n hx hb dX_weld_30 rfl (lv_at hl 0 rfl) ?_
    refine lv_iload_n hx hb dX_weld_31 rfl (lv_at hl 2 rfl) ?_
    refine gk_xv (wr := []) (wc := XW cI cL cZ h a S4) (wfc := XW cI cL cZ h a) hP hD hS hA (vx_runV (As := [.int p1]) (rest := []) C (c_X_needFree l hl9 D cI cL cZ h a _ _ p1 S4 hw H.size) (cwV 1 hts (gGV (by decide +kernel) kX_needFree) rfl rfl rfl (by decide +kernel) ⟨Nat.le_of_ble_eq_true rfl, Nat.le_of_ble_eq_true rfl⟩) (g_preV (wr := []) (wc := XW cI cL cZ h a S4) (ci := 1) hK hG hA hP hD hS rfl (XWc_0 cI cL cZ h a S4) rfl) rfl rfl hl.1 rfl (lv_room (Nat.le_of_ble_eq_true rfl)) dX_weld_32 ⟨Nat.le_of_ble_eq_true rfl, Nat.le_of_ble_eq_true rfl⟩) (fun E S5 ce q9 H locs hw hP hD hS hce hcv hcl => ?_) (fun  S5 H locs hw hP hD hS => ?_)
    · exact gx_out hEx hlocks hce hcv hcl hK hw hP hD hS (Nat.le_of_ble_eq_true rfl) (Nat.le_of_ble_eq_true rfl)
    have hP : va_P D vwCl (XW cI cL cZ h a S5) H := hP
    have hD : va_D A (XW cI cL cZ h a S5) := hD
    refine lv_aload_n hx hb dX_weld_35 rfl (lv_at hl 0 rfl) ?_
    refine lv_iconst (v := 1) hx hb dX_weld_36 (by decide) ?_
    refine gk_xv (wr := []) (wc := XW cI cL cZ h a S5) (wfc := XW cI cL cZ h a) hP hD hS hA (vx_runV (As := [.int 1]) (rest := []) C (c_X_needRoom l hl9 D cI cL cZ h a _ _ 1 S5 hw H.size) (cwV 1 hts (gGV (by decide +kernel) kX_needRoom) rfl rfl rfl (by decide +kernel) ⟨Nat.le_of_ble_eq_true rfl, Nat.le_of_ble_eq_true rfl⟩) (g_preV (wr := []) (wc := XW cI cL cZ h a S5) (ci := 1) hK hG hA hP hD hS rfl (XWc_0 cI cL cZ h a S5) rfl) rfl rfl hl.1 rfl (lv_room (Nat.le_of_ble_eq_true rfl)) dX_weld_37 ⟨Nat.le_of_ble_eq_true rfl, Nat.le_of_ble_eq_true rfl⟩) (fun E S6 ce q9 H locs hw hP hD hS hce hcv hcl => ?_) (fun  S6 H locs hw hP hD hS => ?_)
    · exact gx_out hEx hlocks hce hcv hcl hK hw hP hD hS (Nat.le_of_ble_eq_true rfl) (Nat.le_of_ble_eq_true rfl)
    have hP : va_P D vwCl (XW cI cL cZ h a S6) H := hP
    have hD : va_D A (XW cI cL cZ h a S6) := hD
    refine lv_aload_n hx hb dX_weld_40 rfl (lv_at hl 0 rfl) ?_
    refine va_get (ci := 1) (v := .ref (a 1)) (C := RX9) (T := TX9) (N := 20) hx hb hts iX9 hown hK hP 0 (XWc_0 cI cL cZ h a S6) rfl 1 (by decide) (hto (.fieldLink RX9 13 "PieceTrace" "weights" "[I") (by decide +kernel)) (fun _ h9 => h9) rfl dX_weld_41 ?_
    refine lv_iload_n hx hb dX_weld_44 rfl (lv_at hl 1 rfl) ?_
    obtain ⟨hi7, hw⟩ := hw
    refine va_iald (f := (xWe S6)) hx hb hK hP 2 0 (XWc_2 cI cL cZ h a S6) rfl hi7 dX_weld_45 ?_
    refine lv_i2l (v := (xWe S6 p0.toNatClampNeg).toInt64) hx hb dX_weld_46 rfl ?_
    refine lv_aload_n hx hb dX_weld_47 rfl (lv_at hl 0 rfl) ?_
    refine va_get (ci := 1) (v := .ref (a 1)) (C := RX9) (T := TX9) (N := 20) hx hb hts iX9 hown hK hP 0 (XWc_0 cI cL cZ h a S6) rfl 1 (by decide) (hto (.fieldLink RX9 13 "PieceTrace" "weights" "[I") (by decide +kernel)) (fun _ h9 => h9) rfl dX_weld_48 ?_
    refine lv_iload_n hx hb dX_weld_51 rfl (lv_at hl 2 rfl) ?_
    obtain ⟨hi8, hw⟩ := hw
    refine va_iald (f := (xWe S6)) hx hb hK hP 2 0 (XWc_2 cI cL cZ h a S6) rfl hi8 dX_weld_52 ?_
    refine lv_i2l (v := (xWe S6 p1.toNatClampNeg).toInt64) hx hb dX_weld_53 rfl ?_
    refine lv_ladd hx hb dX_weld_54 ?_
    refine lv_topl (fun v3_9 ev3_9 => ?_)
    have hw := hw v3_9 ev3_9
    refine lv_lstore_n (lv' := [(3, .long v3_9), (0, .ref h), (1, .int p0), (2, .int p1)]) hx hb dX_weld_55 rfl hl (by decide) rfl (fun ls hl => ?_)
    refine lv_aload_n hx hb dX_weld_56 rfl (lv_at hl 1 rfl) ?_
    refine va_get (ci := 1) (v := .ref (a 2)) (C := RX9) (T := TX9) (N := 20) hx hb hts iX9 hown hK hP 0 (XWc_0 cI cL cZ h a S6) rfl 2 (by decide) (hto (.fieldLink RX9 16 "PieceTrace" "lengths" "[I") (by decide +kernel)) (fun _ h9 => h9) rfl dX_weld_57 ?_
    refine lv_iload_n hx hb dX_weld_60 rfl (lv_at hl 2 rfl) ?_
    obtain ⟨hi10, hw⟩ := hw
    refine va_iald (f := (xLe S6)) hx hb hK hP 3 0 (XWc_3 cI cL cZ h a S6) rfl hi10 dX_weld_61 ?_
    refine lv_i2l (v := (xLe S6 p0.toNatClampNeg).toInt64) hx hb dX_weld_62 rfl ?_
    refine lv_aload_n hx hb dX_weld_63 rfl (lv_at hl 1 rfl) ?_
    refine va_get (ci := 1) (v := .ref (a 2)) (C := RX9) (T := TX9) (N := 20) hx hb hts iX9 hown hK hP 0 (XWc_0 cI cL cZ h a S6) rfl 2 (by decide) (hto (.fieldLink RX9 16 "PieceTrace" "lengths" "[I") (by decide +kernel)) (fun _ h9 => h9) rfl dX_weld_64 ?_
    refine lv_iload_n hx hb dX_weld_67 rfl (lv_at hl 3 rfl) ?_
    obtain ⟨hi11, hw⟩ := hw
    refine va_iald (f := (xLe S6)) hx hb hK hP 3 0 (XWc_3 cI cL cZ h a S6) rfl hi11 dX_weld_68 ?_
    refine lv_i2l (v := (xLe S6 p1.toNatClampNeg).toInt64) hx hb dX_weld_69 rfl ?_
    refine lv_ladd hx hb dX_weld_70 ?_
    refine lv_topl (fun v5_12 ev5_12 => ?_)
    have hw := hw v5_12 ev5_12
    refine lv_lstore (lv' := [(5, .long v5_12), (3, .long v3_9), (0, .ref h), (1, .int p0), (2, .int p1)]) hx hb dX_weld_71 hl (by decide) rfl (fun ls hl => ?_)
    refine lv_lload_n hx hb dX_weld_73 rfl (lv_at hl 1 rfl) ?_
    refine lv_ldc2 (v := 1000000000) hx hb hown (hto (.constantLong RX9 93 1000000000) (by decide +kernel)) dX_weld_74 ?_
    refine W.lcmp hx hb dX_weld_77 ?_
    refine lv_if_gt (tgt := 90) hx hb dX_weld_78 (by decide) (fun c13 => ?_) (fun c13 => ?_)
    · have c13 : 1000000000 < v3_9 := (lg_cmp_gt _ _).mp c13
      have hw := hw.1 c13
      exact g_throw (own := RX9) (cls := "java/lang/UnsupportedOperationException") (text := "the weld would be too long or heavy") hx hb hl9 hown (hto (.classLink RX9 95 "java/lang/UnsupportedOperationException") (by decide +kernel)) (hto (.initialized "java/lang/UnsupportedOperationException") (by decide +kernel)) (hG.2.2.1 (RX9, 97, "the weld would be too long or heavy") (by decide +kernel)) (g_at_UOE hts hG) gF_UOE gN_ gO_UOE_95 hG hK hP hD hS (hl.1.trans hml.symm) dX_weld_90 dX_weld_93 dX_weld_94 dX_weld_96 dX_weld_99 hEx (Nat.le_of_ble_eq_true rfl) (Nat.le_of_ble_eq_true rfl) (Nat.le_of_ble_eq_true rfl) (Nat.le_of_ble_eq_true rfl) hlocks hw (Nat.le_of_ble_eq_true rfl) (Nat.le_of_ble_eq_true rfl)
    · have c13 : ¬ 1000000000 < v3_9 := fun h9 => c13 ((lg_cmp_gt _ _).mpr h9)
      have hw := hw.2 c13
      refine lv_lload hx hb dX_weld_81 (lv_at hl 0 rfl) ?_
      refine lv_ldc2 (v := 1000000000) hx hb hown (hto (.constantLong RX9 93 1000000000) (by decide +kernel)) dX_weld_83 ?_
      refine W.lcmp hx hb dX_weld_86 ?_
      refine lv_if_le (tgt := 100) hx hb dX_weld_87 (by decide) (fun c14 => ?_) (fun c14 => ?_)
      · have c14 : v5_12 ≤ 1000000000 := (lg_cmp_le _ _).mp c14
        have hw := hw.1 c14
        refine lv_aload_n hx hb dX_weld_100 rfl (lv_at hl 2 rfl) ?_
        refine va_get (ci := 1) (v := .ref (a 3)) (C := RX9) (T := TX9) (N := 20) hx hb hts iX9 hown hK hP 0 (XWc_0 cI cL cZ h a S6) rfl 3 (by decide) (hto (.fieldLink RX9 19 "PieceTrace" "states" "[I") (by decide +kernel)) (fun _ h9 => h9) rfl dX_weld_101 ?_
        refine lv_iload_n hx hb dX_weld_104 rfl (lv_at hl 3 rfl) ?_
        refine lv_iconst (v := 1) hx hb dX_weld_105 (by decide) ?_
        obtain ⟨hi15, hw⟩ := hw
        refine g_iast (wf := XW cI cL cZ h a) (S' := xuSt S6 p0 1) hx hb hK hP hD hS 4 0 (XWc_4 cI cL cZ h a S6) rfl rfl hi15 dX_weld_106 (fun S16 eS16 H locs hP hD hS => ?_)
        have hw := hw S16 eS16
        refine lv_aload_n hx hb dX_weld_107 rfl (lv_at hl 2 rfl) ?_
        refine va_get (ci := 1) (v := .ref (a 3)) (C := RX9) (T := TX9) (N := 20) hx hb hts iX9 hown hK hP 0 (XWc_0 cI cL cZ h a S16) rfl 3 (by decide) (hto (.fieldLink RX9 19 "PieceTrace" "states" "[I") (by decide +kernel)) (fun _ h9 => h9) rfl dX_weld_108 ?_
        refine lv_iload_n hx hb dX_weld_111 rfl (lv_at hl 4 rfl) ?_
        refine lv_iconst (v := 1) hx hb dX_weld_112 (by decide) ?_
        obtain ⟨hi17, hw⟩ := hw
        refine g_iast (wf := XW cI cL cZ h a) (S' := xuSt S16 p1 1) hx hb hK hP hD hS 4 0 (XWc_4 cI cL cZ h a S16) rfl rfl hi17 dX_weld_113 (fun S18 eS18 H locs hP hD hS => ?_)
        have hw := hw S18 eS18
        refine lv_aload_n hx hb dX_weld_114 rfl (lv_at hl 2 rfl) ?_
        refine lv_iconst (v := 3) hx hb dX_weld_115 (by decide) ?_
        refine lv_iload_n hx hb dX_weld_116 rfl (lv_at hl 3 rfl) ?_
        refine lv_lload_n hx hb dX_weld_117 rfl (lv_at hl 1 rfl) ?_
        refine lv_l2i (v := v3_9.toInt32) hx hb dX_weld_118 rfl ?_
        refine lv_lload hx hb dX_weld_119 (lv_at hl 0 rfl) ?_
        refine lv_l2i (v := v5_12.toInt32) hx hb dX_weld_121 rfl ?_
        refine gk_i (wr := []) (wc := XW cI cL cZ h a S18) (wfc := XW cI cL cZ h a) hP hD hS hA (va_runV (As := [.int 3, .int p0, .int v3_9.toInt32, .int v5_12.toInt32]) (rest := []) C (c_X_addPiece l hl9 D cI cL cZ h a _ 3 p0 v3_9.toInt32 v5_12.toInt32 S18 hw H.size) (cwV 4 hts (gGV (by decide +kernel) kX_addPiece) rfl rfl rfl (by decide +kernel) ⟨Nat.le_of_ble_eq_true rfl, Nat.le_of_ble_eq_true rfl⟩) (g_preV (wr := []) (wc := XW cI cL cZ h a S18) (ci := 1) hK hG hA hP hD hS rfl (XWc_0 cI cL cZ h a S18) rfl) rfl rfl hl.1 rfl (lv_room (Nat.le_of_ble_eq_true rfl)) dX_weld_122 ⟨Nat.le_of_ble_eq_true rfl, Nat.le_of_ble_eq_true rfl⟩) (fun r20 S19 H locs hw hP hD hS => ?_)
        have hP : va_P D vwCl (XW cI cL cZ h a S19) H := hP
        have hD : va_D A (XW cI cL cZ h a S19) := hD
        refine lv_istore (lv' := [(7, .int r20), (5, .long v5_12), (3, .long v3_9), (0, .ref h), (1, .int p0), (2, .int p1)]) hx hb dX_weld_125 hl (by decide) rfl (fun ls hl => ?_)
        refine lv_aload_n hx hb dX_weld_127 rfl (lv_at hl 3 rfl) ?_
        refine va_get (ci := 1) (v := .ref (a 5)) (C := RX9) (T := TX9) (N := 20) hx hb hts iX9 hown hK hP 0 (XWc_0 cI cL cZ h a S19) rfl 5 (by decide) (hto (.fieldLink RX9 25 "PieceTrace" "seconds" "[I") (by decide +kernel)) (fun _ h9 => h9) rfl dX_weld_128 ?_
        refine lv_iload hx hb dX_weld_131 (lv_at hl 0 rfl) ?_
        refine lv_iload_n hx hb dX_weld_133 rfl (lv_at hl 5 rfl) ?_
        obtain ⟨hi21, hw⟩ := hw
        refine g_iast (wf := XW cI cL cZ h a) (S' := xuSe S19 r20 p1) hx hb hK hP hD hS 6 0 (XWc_6 cI cL cZ h a S19) rfl rfl hi21 dX_weld_134 (fun S22 eS22 H locs hP hD hS => ?_)
        have hw := hw S22 eS22
        refine lv_aload_n hx hb dX_weld_135 rfl (lv_at hl 3 rfl) ?_
        refine va_get (ci := 1) (v := .ref (a 7)) (C := RX9) (T := TX9) (N := 20) hx hb hts iX9 hown hK hP 0 (XWc_0 cI cL cZ h a S22) rfl 7 (by decide) (hto (.fieldLink RX9 31 "PieceTrace" "seams" "[I") (by decide +kernel)) (fun _ h9 => h9) rfl dX_weld_136 ?_
        refine lv_iload hx hb dX_weld_139 (lv_at hl 0 rfl) ?_
        refine lv_aload_n hx hb dX_weld_141 rfl (lv_at hl 3 rfl) ?_
        refine va_get (ci := 1) (v := .ref (a 2)) (C := RX9) (T := TX9) (N := 20) hx hb hts iX9 hown hK hP 0 (XWc_0 cI cL cZ h a S22) rfl 2 (by decide) (hto (.fieldLink RX9 16 "PieceTrace" "lengths" "[I") (by decide +kernel)) (fun _ h9 => h9) rfl dX_weld_142 ?_
        refine lv_iload_n hx hb dX_weld_145 rfl (lv_at hl 4 rfl) ?_
        obtain ⟨hi23, hw⟩ := hw
        refine va_iald (f := (xLe S22)) hx hb hK hP 3 0 (XWc_3 cI cL cZ h a S22) rfl hi23 dX_weld_146 ?_
        obtain ⟨hi24, hw⟩ := hw
        refine g_iast (wf := XW cI cL cZ h a) (S' := xuSm S22 r20 (xLe S22 p0.toNatClampNeg)) hx hb hK hP hD hS 8 0 (XWc_8 cI cL cZ h a S22) rfl rfl hi24 dX_weld_147 (fun S25 eS25 H locs hP hD hS => ?_)
        have hw := hw S25 eS25
        refine lv_aload_n hx hb dX_weld_148 rfl (lv_at hl 3 rfl) ?_
        refine va_get (ci := 1) (v := .ref (a 6)) (C := RX9) (T := TX9) (N := 20) hx hb hts iX9 hown hK hP 0 (XWc_0 cI cL cZ h a S25) rfl 6 (by decide) (hto (.fieldLink RX9 28 "PieceTrace" "rollCounts" "[I") (by decide +kernel)) (fun _ h9 => h9) rfl dX_weld_149 ?_
        refine lv_iload hx hb dX_weld_152 (lv_at hl 0 rfl) ?_
        refine lv_aload_n hx hb dX_weld_154 rfl (lv_at hl 3 rfl) ?_
        refine va_get (ci := 1) (v := .ref (a 6)) (C := RX9) (T := TX9) (N := 20) hx hb hts iX9 hown hK hP 0 (XWc_0 cI cL cZ h a S25) rfl 6 (by decide) (hto (.fieldLink RX9 28 "PieceTrace" "rollCounts" "[I") (by decide +kernel)) (fun _ h9 => h9) rfl dX_weld_155 ?_
        refine lv_iload_n hx hb dX_weld_158 rfl (lv_at hl 4 rfl) ?_
        obtain ⟨hi26, hw⟩ := hw
        refine va_iald (f := (xRo S25)) hx hb hK hP 7 0 (XWc_7 cI cL cZ h a S25) rfl hi26 dX_weld_159 ?_
        refine lv_aload_n hx hb dX_weld_160 rfl (lv_at hl 3 rfl) ?_
        refine va_get (ci := 1) (v := .ref (a 6)) (C := RX9) (T := TX9) (N := 20) hx hb hts iX9 hown hK hP 0 (XWc_0 cI cL cZ h a S25) rfl 6 (by decide) (hto (.fieldLink RX9 28 "PieceTrace" "rollCounts" "[I") (by decide +kernel)) (fun _ h9 => h9) rfl dX_weld_161 ?_
        refine lv_iload_n hx hb dX_weld_164 rfl (lv_at hl 5 rfl) ?_
        obtain ⟨hi27, hw⟩ := hw
        refine va_iald (f := (xRo S25)) hx hb hK hP 7 0 (XWc_7 cI cL cZ h a S25) rfl hi27 dX_weld_165 ?_
        refine va_mmax hx hb (hml.trans hl.1.symm) hown (hto (.methodLink RX9 100 Lib.Math.max.name) (by decide +kernel)) (hto (.static Lib.Math.max.name) (by decide +kernel)) (hto (.initialized "java/lang/Math") (by decide +kernel)) (hts _ (gWc_in _ kmathmax)) (Nat.le_of_ble_eq_true rfl) (Nat.le_of_ble_eq_true rfl) (Nat.le_of_ble_eq_true rfl) (Nat.le_of_ble_eq_true rfl) dX_weld_166 ?_
        obtain ⟨hi28, hw⟩ := hw
        refine g_iast (wf := XW cI cL cZ h a) (S' := xuRo S25 r20 (if (xRo S25 p0.toNatClampNeg) < (xRo S25 p1.toNatClampNeg) then (xRo S25 p1.toNatClampNeg) else (xRo S25 p0.toNatClampNeg))) hx hb hK hP hD hS 7 0 (XWc_7 cI cL cZ h a S25) rfl rfl hi28 dX_weld_169 (fun S29 eS29 H locs hP hD hS => ?_)
        have hw := hw S29 eS29
        refine lv_iload hx hb dX_weld_170 (lv_at hl 0 rfl) ?_
        exact gx_i hx hb hr hlocks hK hP hD hS hw dX_weld_172
      · have c14 : ¬ v5_12 ≤ 1000000000 := fun h9 => c14 ((lg_cmp_le _ _).mpr h9)
        have hw := hw.2 c14
        exact g_throw (own := RX9) (cls := "java/lang/UnsupportedOperationException") (text := "the weld would be too long or heavy") hx hb hl9 hown (hto (.classLink RX9 95 "java/lang/UnsupportedOperationException") (by decide +kernel)) (hto (.initialized "java/lang/UnsupportedOperationException") (by decide +kernel)) (hG.2.2.1 (RX9, 97, "the weld would be too long or heavy") (by decide +kernel)) (g_at_UOE hts hG) gF_UOE gN_ gO_UOE_95 hG hK hP hD hS (hl.1.trans hml.symm) dX_weld_90 dX_weld_93 dX_weld_94 dX_weld_96 dX_weld_99 hEx (Nat.le_of_ble_eq_true rfl) (Nat.le_of_ble_eq_true rfl) (Nat.le_of_ble_eq_true rfl) (Nat.le_of_ble_eq_true rfl) hlocks hw (Nat.le_of_ble_eq_true rfl) (Nat.le_of_ble_eq_true rfl)
  · have hw := hw.1 c3
    exact g_throw (own := RX9) (cls := "java/lang/IndexOutOfBoundsException") (text := "a piece can't be welded to itself") hx hb hl9 hown (hto (.classLink RX9 86 "java/lang/IndexOutOfBoundsException") (by decide +kernel)) (hto (.initialized "java/lang/IndexOutOfBoundsException") (by decide +kernel)) (hG.2.2.1 (RX9, 88, "a piece can't be welded to itself") (by decide +kernel)) (g_at_IOB hts hG) gF_IOB gN_ gO_IOB_86 hG hK hP hD hS (hl.1.trans hml.symm) dX_weld_15 dX_weld_18 dX_weld_19 dX_weld_21 dX_weld_24 hEx (Nat.le_of_ble_eq_true rfl) (Nat.le_of_ble_eq_true rfl) (Nat.le_of_ble_eq_true rfl) (Nat.le_of_ble_eq_true rfl) hlocks hw (Nat.le_of_ble_eq_true rfl) (Nat.le_of_ble_eq_true rfl)
def wp_X_roll (post : Int32 → XSt → Prop) (xp : String → XSt → Prop) (p0 : Int32) (p1 : Int32) (p2 : Int32) (S : XSt) : Prop := (wp_X_needPiece (fun  S1 => (wp_X_needFree (fun  S2 => (wp_X_needWithin (fun  S3 => (wp_X_needWithin (fun  S4 => (wp_X_needRoom (fun  S5 => (vp_in p0 40 ∧ (((xRo S5 p0.toNatClampNeg) < 3 → (vp_in p0 40 ∧ (¬ p2.toInt64 = 0 ∧ (∀ v4_10 : Int64, v4_10 = (((xLe S5 p0.toNatClampNeg).toInt64 * p1.toInt64) / p2.toInt64) → ((v4_10 < 1 → (xp "java/lang/UnsupportedOperationException" S5)) ∧ (¬ v4_10 < 1 → ((v4_10 ≤ 1000000000 → (vp_in p0 40 ∧ (∀ S14 : XSt, S14 = xuSt S5 p0 1 → (vp_in p0 40 ∧ (wp_X_addPiece (fun r17 S16 => (vp_in r17 40 ∧ (∀ S19 : XSt, S19 = xuRU S16 r17 p1 → (vp_in r17 40 ∧ (∀ S21 : XSt, S21 = xuRL S19 r17 p2 → (vp_in p0 40 ∧ (vp_in r17 40 ∧ (∀ S24 : XSt, S24 = xuRo S21 r17 ((xRo S21 p0.toNatClampNeg) + 1) → (post r17 S24))))))))) 4 p0 (xWe S14 p0.toNatClampNeg) v4_10.toInt32 S14))))) ∧ (¬ v4_10 ≤ 1000000000 → (xp "java/lang/UnsupportedOperationException" S5))))))))) ∧ (¬ (xRo S5 p0.toNatClampNeg) < 3 → (xp "java/lang/UnsupportedOperationException" S5))))) xp 1 S4)) xp p2 1 20 S3)) xp p1 1 20 S2)) xp p0 S1)) xp p0 S)
set_option maxHeartbeats 4000000 in
set_option maxRecDepth 100000 in
theorem c_X_roll (l : Launch) (hl9 : l.stackTraces = false) (D : va_G) (cI cL cZ : ClassId) (h : Nat) (a : Nat → Nat) (post : Int32 → XSt → Prop) (xp : String → XSt → Prop) (p0 : Int32) (p1 : Int32) (p2 : Int32) (S : XSt) (hw : wp_X_roll post xp p0 p1 p2 S) : gXi l yX_roll wsX_roll ({ frames := 7, cells := 1, slots := 6, locals := 104 }) D [(cI, .int), (cL, .long), (cZ, .boolean)] [.ref h, .int p0, .int p1, .int p2] (XW cI cL cZ h a S) (XW cI cL cZ h a) post xp := by
  refine g_ofXi (cc := cX_roll) (maxL := 7) (ret := (some .int)) (own := RX9) (by decide) rfl rfl (Nat.le_of_ble_eq_true rfl) ?_
  intro p e s m below meth c A H locs ls C hr hlocks hEx hK hG hA hP hD hS hl
  obtain ⟨hx, hb, hml, hown, hts⟩ := id C
  have hts := fun w (h9 : w ∈ gW) => hts w (List.mem_cons_of_mem _ h9)
  have hto := fun w (h9 : w ∈ gWo) => hts w (gWo_in w h9)
  have hl : lv_has ls 7 [(0, .ref h), (1, .int p0), (2, .int p1), (3, .int p2)] := hl
  dsimp only [wp_X_roll] at hw
  refine lv_aload_n hx hb dX_roll_0 rfl (lv_at hl 0 rfl) ?_
  refine lv_iload_n hx hb dX_roll_1 rfl (lv_at hl 1 rfl) ?_
  refine gk_xv (wr := []) (wc := XW cI cL cZ h a S) (wfc := XW cI cL cZ h a) hP hD hS hA (vx_runV (As := [.int p0]) (rest := []) C (c_X_needPiece l hl9 D cI cL cZ h a _ _ p0 S hw H.size) (cwV 1 hts (gGV (by decide +kernel) kX_needPiece) rfl rfl rfl (by decide +kernel) ⟨Nat.le_of_ble_eq_true rfl, Nat.le_of_ble_eq_true rfl⟩) (g_preV (wr := []) (wc := XW cI cL cZ h a S) (ci := 1) hK hG hA hP hD hS rfl (XWc_0 cI cL cZ h a S) rfl) rfl rfl hl.1 rfl (lv_room (Nat.le_of_ble_eq_true rfl)) dX_roll_2 ⟨Nat.le_of_ble_eq_true rfl, Nat.le_of_ble_eq_true rfl⟩) (fun E S1 ce q9 H locs hw hP hD hS hce hcv hcl => ?_) (fun  S1 H locs hw hP hD hS => ?_)
  · exact gx_out hEx hlocks hce hcv hcl hK hw hP hD hS (Nat.le_of_ble_eq_true rfl) (Nat.le_of_ble_eq_true rfl)
  have hP : va_P D vwCl (XW cI cL cZ h a S1) H := hP
  have hD : va_D A (XW cI cL cZ h a S1) := hD
  refine lv_aload_n hx hb dX_roll_5 rfl (lv_at hl 0 rfl) ?_
  refine lv_iload_n hx hb dX_roll_6 rfl (lv_at hl 1 rfl) ?_
  refine gk_xv (wr := []) (wc := XW cI cL cZ h a S1) (wfc := XW cI cL cZ h a) hP hD hS hA (vx_runV (As := [.int p0]) (rest := []) C (c_X_needFree l hl9 D cI cL cZ h a _ _ p0 S1 hw H.size) (cwV 1 hts (gGV (by decide +kernel) kX_needFree) rfl rfl rfl (by decide +kernel) ⟨Nat.le_of_ble_eq_true rfl, Nat.le_of_ble_eq_true rfl⟩) (g_preV (wr := []) (wc := XW cI cL cZ h a S1) (ci := 1) hK hG hA hP hD hS rfl (XWc_0 cI cL cZ h a S1) rfl) rfl rfl hl.1 rfl (lv_room (Nat.le_of_ble_eq_true rfl)) dX_roll_7 ⟨Nat.le_of_ble_eq_true rfl, Nat.le_of_ble_eq_true rfl⟩) (fun E S2 ce q9 H locs hw hP hD hS hce hcv hcl => ?_) (fun  S2 H locs hw hP hD hS => ?_)
  · exact gx_out hEx hlocks hce hcv hcl hK hw hP hD hS (Nat.le_of_ble_eq_true rfl) (Nat.le_of_ble_eq_true rfl)
  have hP : va_P D vwCl (XW cI cL cZ h a S2) H := hP
  have hD : va_D A (XW cI cL cZ h a S2) := hD
  refine lv_iload_n hx hb dX_roll_10 rfl (lv_at hl 2 rfl) ?_
  refine lv_iconst (v := 1) hx hb dX_roll_11 (by decide) ?_
  refine lv_bipush (v := 20) hx hb dX_roll_12 (by decide) ?_
  refine gk_xv (wr := []) (wc := XW cI cL cZ h a S2) (wfc := XW cI cL cZ h a) hP hD hS hA (vx_runS (As := [.int p1, .int 1, .int 20]) (rest := []) C (c_X_needWithin l hl9 D cI cL cZ h a _ _ p1 1 20 S2 hw H.size) (va_cwS 3 hts (gGS (by decide +kernel) kX_needWithin) rfl rfl rfl (by decide +kernel) ⟨Nat.le_of_ble_eq_true rfl, Nat.le_of_ble_eq_true rfl⟩) (g_preS (wr := []) (wc := XW cI cL cZ h a S2) hK hG hA hP hD hS) rfl rfl hl.1 rfl (lv_room (Nat.le_of_ble_eq_true rfl)) dX_roll_14 ⟨Nat.le_of_ble_eq_true rfl, Nat.le_of_ble_eq_true rfl⟩) (fun E S3 ce q9 H locs hw hP hD hS hce hcv hcl => ?_) (fun  S3 H locs hw hP hD hS => ?_)
  · exact gx_out hEx hlocks hce hcv hcl hK hw hP hD hS (Nat.le_of_ble_eq_true rfl) (Nat.le_of_ble_eq_true rfl)
  have hP : va_P D vwCl (XW cI cL cZ h a S3) H := hP
  have hD : va_D A (XW cI cL cZ h a S3) := hD
  refine lv_iload_n hx hb dX_roll_17 rfl (lv_at hl 3 rfl) ?_
  refine lv_iconst (v := 1) hx hb dX_roll_18 (by decide) ?_
  refine lv_bipush (v := 20) hx hb dX_roll_19 (by decide) ?_
  refine gk_xv (wr := []) (wc := XW cI cL cZ h a S3) (wfc := XW cI cL cZ h a) hP hD hS hA (vx_runS (As := [.int p2, .int 1, .int 20]) (rest := []) C (c_X_needWithin l hl9 D cI cL cZ h a _ _ p2 1 20 S3 hw H.size) (va_cwS 3 hts (gGS (by decide +kernel) kX_needWithin) rfl rfl rfl (by decide +kernel) ⟨Nat.le_of_ble_eq_true rfl, Nat.le_of_ble_eq_true rfl⟩) (g_preS (wr := []) (wc := XW cI cL cZ h a S3) hK hG hA hP hD hS) rfl rfl hl.1 rfl (lv_room (Nat.le_of_ble_eq_true rfl)) dX_roll_21 ⟨Nat.le_of_ble_eq_true rfl, Nat.le_of_ble_eq_true rfl⟩) (fun E S4 ce q9 H locs hw hP hD hS hce hcv hcl => ?_) (fun  S4 H locs hw hP hD hS => ?_)
  · exact gx_out hEx hlocks hce hcv hcl hK hw hP hD hS (Nat.le_of_ble_eq_true rfl) (Nat.le_of_ble_eq_true rfl)
  have hP : va_P D vwCl (XW cI cL cZ h a S4) H := hP
  have hD : va_D A (XW cI cL cZ h a S4) := hD
  refine lv_aload_n hx hb dX_roll_24 rfl (lv_at hl 0 rfl) ?_
  refine lv_iconst (v := 1) hx hb dX_roll_25 (by decide) ?_
  refine gk_xv (wr := []) (wc := XW cI cL cZ h a S4) (wfc := XW cI cL cZ h a) hP hD hS hA (vx_runV (As := [.int 1]) (rest := []) C (c_X_needRoom l hl9 D cI cL cZ h a _ _ 1 S4 hw H.size) (cwV 1 hts (gGV (by decide +kernel) kX_needRoom) rfl rfl rfl (by decide +kernel) ⟨Nat.le_of_ble_eq_true rfl, Nat.le_of_ble_eq_true rfl⟩) (g_preV (wr := []) (wc := XW cI cL cZ h a S4) (ci := 1) hK hG hA hP hD hS rfl (XWc_0 cI cL cZ h a S4) rfl) rfl rfl hl.1 rfl (lv_room (Nat.le_of_ble_eq_true rfl)) dX_roll_26 ⟨Nat.le_of_ble_eq_true rfl, Nat.le_of_ble_eq_true rfl⟩) (fun E S5 ce q9 H locs hw hP hD hS hce hcv hcl => ?_) (fun  S5 H locs hw hP hD hS => ?_)
  · exact gx_out hEx hlocks hce hcv hcl hK hw hP hD hS (Nat.le_of_ble_eq_true rfl) (Nat.le_of_ble_eq_true rfl)
  have hP : va_P D vwCl (XW cI cL cZ h a S5) H := hP
  have hD : va_D A (XW cI cL cZ h a S5) := hD
  refine lv_aload_n hx hb dX_roll_29 rfl (lv_at hl 0 rfl) ?_
  refine va_get (ci := 1) (v := .ref (a 6)) (C := RX9) (T := TX9) (N := 20) hx hb hts iX9 hown hK hP 0 (XWc_0 cI cL cZ h a S5) rfl 6 (by decide) (hto (.fieldLink RX9 28 "PieceTrace" "rollCounts" "[I") (by decide +kernel)) (fun _ h9 => h9) rfl dX_roll_30 ?_
  refine lv_iload_n hx hb dX_roll_33 rfl (lv_at hl 1 rfl) ?_
  obtain ⟨hi6, hw⟩ := hw
  refine va_iald (f := (xRo S5)) hx hb hK hP 7 0 (XWc_7 cI cL cZ h a S5) rfl hi6 dX_roll_34 ?_
  refine lv_iconst (v := 3) hx hb dX_roll_35 (by decide) ?_
  refine lv_icmp_lt (tgt := 49) hx hb dX_roll_36 (by decide) (fun c7 => ?_) (fun c7 => ?_)
  · have hw := hw.1 c7
    refine lv_aload_n hx hb dX_roll_49 rfl (lv_at hl 0 rfl) ?_
    refine va_get (ci := 1) (v := .ref (a 2)) (C := RX9) (T := TX9) (N := 20) hx hb hts iX9 hown hK hP 0 (XWc_0 cI cL cZ h a S5) rfl 2 (by decide) (hto (.fieldLink RX9 16 "PieceTrace" "lengths" "[I") (by decide +kernel)) (fun _ h9 => h9) rfl dX_roll_50 ?_
    refine lv_iload_n hx hb dX_roll_53 rfl (lv_at hl 1 rfl) ?_
    obtain ⟨hi8, hw⟩ := hw
    refine va_iald (f := (xLe S5)) hx hb hK hP 3 0 (XWc_3 cI cL cZ h a S5) rfl hi8 dX_roll_54 ?_
    refine lv_i2l (v := (xLe S5 p0.toNatClampNeg).toInt64) hx hb dX_roll_55 rfl ?_
    refine lv_iload_n hx hb dX_roll_56 rfl (lv_at hl 2 rfl) ?_
    refine lv_i2l (v := p1.toInt64) hx hb dX_roll_57 rfl ?_
    refine lv_lmul hx hb dX_roll_58 ?_
    refine lv_iload_n hx hb dX_roll_59 rfl (lv_at hl 3 rfl) ?_
    refine lv_i2l (v := p2.toInt64) hx hb dX_roll_60 rfl ?_
    obtain ⟨hz9, hw⟩ := hw
    refine lv_ldiv hx hb dX_roll_61 hz9 ?_
    refine lv_topl (fun v4_10 ev4_10 => ?_)
    have hw := hw v4_10 ev4_10
    refine lv_lstore (lv' := [(4, .long v4_10), (0, .ref h), (1, .int p0), (2, .int p1), (3, .int p2)]) hx hb dX_roll_62 hl (by decide) rfl (fun ls hl => ?_)
    refine lv_lload hx hb dX_roll_64 (lv_at hl 0 rfl) ?_
    refine lv_lconst (v := 1) hx hb dX_roll_66 (by decide) ?_
    refine W.lcmp hx hb dX_roll_67 ?_
    refine lv_if_lt (tgt := 80) hx hb dX_roll_68 (by decide) (fun c11 => ?_) (fun c11 => ?_)
    · have c11 : v4_10 < 1 := (lg_cmp_lt _ _).mp c11
      have hw := hw.1 c11
      exact g_throw (own := RX9) (cls := "java/lang/UnsupportedOperationException") (text := "the rolled piece would be too short or long") hx hb hl9 hown (hto (.classLink RX9 95 "java/lang/UnsupportedOperationException") (by decide +kernel)) (hto (.initialized "java/lang/UnsupportedOperationException") (by decide +kernel)) (hG.2.2.1 (RX9, 108, "the rolled piece would be too short or long") (by decide +kernel)) (g_at_UOE hts hG) gF_UOE gN_ gO_UOE_95 hG hK hP hD hS (hl.1.trans hml.symm) dX_roll_80 dX_roll_83 dX_roll_84 dX_roll_86 dX_roll_89 hEx (Nat.le_of_ble_eq_true rfl) (Nat.le_of_ble_eq_true rfl) (Nat.le_of_ble_eq_true rfl) (Nat.le_of_ble_eq_true rfl) hlocks hw (Nat.le_of_ble_eq_true rfl) (Nat.le_of_ble_eq_true rfl)
    · have c11 : ¬ v4_10 < 1 := fun h9 => c11 ((lg_cmp_lt _ _).mpr h9)
      have hw := hw.2 c11
      refine lv_lload hx hb dX_roll_71 (lv_at hl 0 rfl) ?_
      refine lv_ldc2 (v := 1000000000) hx hb hown (hto (.constantLong RX9 93 1000000000) (by decide +kernel)) dX_roll_73 ?_
      refine W.lcmp hx hb dX_roll_76 ?_
      refine lv_if_le (tgt := 90) hx hb dX_roll_77 (by decide) (fun c12 => ?_) (fun c12 => ?_)
      · have c12 : v4_10 ≤ 1000000000 := (lg_cmp_le _ _).mp c12
        have hw := hw.1 c12
        refine lv_aload_n hx hb dX_roll_90 rfl (lv_at hl 1 rfl) ?_
        refine va_get (ci := 1) (v := .ref (a 3)) (C := RX9) (T := TX9) (N := 20) hx hb hts iX9 hown hK hP 0 (XWc_0 cI cL cZ h a S5) rfl 3 (by decide) (hto (.fieldLink RX9 19 "PieceTrace" "states" "[I") (by decide +kernel)) (fun _ h9 => h9) rfl dX_roll_91 ?_
        refine lv_iload_n hx hb dX_roll_94 rfl (lv_at hl 2 rfl) ?_
        refine lv_iconst (v := 1) hx hb dX_roll_95 (by decide) ?_
        obtain ⟨hi13, hw⟩ := hw
        refine g_iast (wf := XW cI cL cZ h a) (S' := xuSt S5 p0 1) hx hb hK hP hD hS 4 0 (XWc_4 cI cL cZ h a S5) rfl rfl hi13 dX_roll_96 (fun S14 eS14 H locs hP hD hS => ?_)
        have hw := hw S14 eS14
        refine lv_aload_n hx hb dX_roll_97 rfl (lv_at hl 1 rfl) ?_
        refine lv_iconst (v := 4) hx hb dX_roll_98 (by decide) ?_
        refine lv_iload_n hx hb dX_roll_99 rfl (lv_at hl 2 rfl) ?_
        refine lv_aload_n hx hb dX_roll_100 rfl (lv_at hl 1 rfl) ?_
        refine va_get (ci := 1) (v := .ref (a 1)) (C := RX9) (T := TX9) (N := 20) hx hb hts iX9 hown hK hP 0 (XWc_0 cI cL cZ h a S14) rfl 1 (by decide) (hto (.fieldLink RX9 13 "PieceTrace" "weights" "[I") (by decide +kernel)) (fun _ h9 => h9) rfl dX_roll_101 ?_
        refine lv_iload_n hx hb dX_roll_104 rfl (lv_at hl 2 rfl) ?_
        obtain ⟨hi15, hw⟩ := hw
        refine va_iald (f := (xWe S14)) hx hb hK hP 2 0 (XWc_2 cI cL cZ h a S14) rfl hi15 dX_roll_105 ?_
        refine lv_lload hx hb dX_roll_106 (lv_at hl 0 rfl) ?_
        refine lv_l2i (v := v4_10.toInt32) hx hb dX_roll_108 rfl ?_
        refine gk_i (wr := []) (wc := XW cI cL cZ h a S14) (wfc := XW cI cL cZ h a) hP hD hS hA (va_runV (As := [.int 4, .int p0, .int (xWe S14 p0.toNatClampNeg), .int v4_10.toInt32]) (rest := []) C (c_X_addPiece l hl9 D cI cL cZ h a _ 4 p0 (xWe S14 p0.toNatClampNeg) v4_10.toInt32 S14 hw H.size) (cwV 4 hts (gGV (by decide +kernel) kX_addPiece) rfl rfl rfl (by decide +kernel) ⟨Nat.le_of_ble_eq_true rfl, Nat.le_of_ble_eq_true rfl⟩) (g_preV (wr := []) (wc := XW cI cL cZ h a S14) (ci := 1) hK hG hA hP hD hS rfl (XWc_0 cI cL cZ h a S14) rfl) rfl rfl hl.1 rfl (lv_room (Nat.le_of_ble_eq_true rfl)) dX_roll_109 ⟨Nat.le_of_ble_eq_true rfl, Nat.le_of_ble_eq_true rfl⟩) (fun r17 S16 H locs hw hP hD hS => ?_)
        have hP : va_P D vwCl (XW cI cL cZ h a S16) H := hP
        have hD : va_D A (XW cI cL cZ h a S16) := hD
        refine lv_istore (lv' := [(6, .int r17), (4, .long v4_10), (0, .ref h), (1, .int p0), (2, .int p1), (3, .int p2)]) hx hb dX_roll_112 hl (by decide) rfl (fun ls hl => ?_)
        refine lv_aload_n hx hb dX_roll_114 rfl (lv_at hl 2 rfl) ?_
        refine va_get (ci := 1) (v := .ref (a 8)) (C := RX9) (T := TX9) (N := 20) hx hb hts iX9 hown hK hP 0 (XWc_0 cI cL cZ h a S16) rfl 8 (by decide) (hto (.fieldLink RX9 34 "PieceTrace" "ratioUppers" "[I") (by decide +kernel)) (fun _ h9 => h9) rfl dX_roll_115 ?_
        refine lv_iload hx hb dX_roll_118 (lv_at hl 0 rfl) ?_
        refine lv_iload_n hx hb dX_roll_120 rfl (lv_at hl 4 rfl) ?_
        obtain ⟨hi18, hw⟩ := hw
        refine g_iast (wf := XW cI cL cZ h a) (S' := xuRU S16 r17 p1) hx hb hK hP hD hS 9 0 (XWc_9 cI cL cZ h a S16) rfl rfl hi18 dX_roll_121 (fun S19 eS19 H locs hP hD hS => ?_)
        have hw := hw S19 eS19
        refine lv_aload_n hx hb dX_roll_122 rfl (lv_at hl 2 rfl) ?_
        refine va_get (ci := 1) (v := .ref (a 9)) (C := RX9) (T := TX9) (N := 20) hx hb hts iX9 hown hK hP 0 (XWc_0 cI cL cZ h a S19) rfl 9 (by decide) (hto (.fieldLink RX9 37 "PieceTrace" "ratioLowers" "[I") (by decide +kernel)) (fun _ h9 => h9) rfl dX_roll_123 ?_
        refine lv_iload hx hb dX_roll_126 (lv_at hl 0 rfl) ?_
        refine lv_iload_n hx hb dX_roll_128 rfl (lv_at hl 5 rfl) ?_
        obtain ⟨hi20, hw⟩ := hw
        refine g_iast (wf := XW cI cL cZ h a) (S' := xuRL S19 r17 p2) hx hb hK hP hD hS 10 0 (XWc_10 cI cL cZ h a S19) rfl rfl hi20 dX_roll_129 (fun S21 eS21 H locs hP hD hS => ?_)
        have hw := hw S21 eS21
        refine lv_aload_n hx hb dX_roll_130 rfl (lv_at hl 2 rfl) ?_
        refine va_get (ci := 1) (v := .ref (a 6)) (C := RX9) (T := TX9) (N := 20) hx hb hts iX9 hown hK hP 0 (XWc_0 cI cL cZ h a S21) rfl 6 (by decide) (hto (.fieldLink RX9 28 "PieceTrace" "rollCounts" "[I") (by decide +kernel)) (fun _ h9 => h9) rfl dX_roll_131 ?_
        refine lv_iload hx hb dX_roll_134 (lv_at hl 0 rfl) ?_
        refine lv_aload_n hx hb dX_roll_136 rfl (lv_at hl 2 rfl) ?_
        refine va_get (ci := 1) (v := .ref (a 6)) (C := RX9) (T := TX9) (N := 20) hx hb hts iX9 hown hK hP 0 (XWc_0 cI cL cZ h a S21) rfl 6 (by decide) (hto (.fieldLink RX9 28 "PieceTrace" "rollCounts" "[I") (by decide +kernel)) (fun _ h9 => h9) rfl dX_roll_137 ?_
        refine lv_iload_n hx hb dX_roll_140 rfl (lv_at hl 3 rfl) ?_
        obtain ⟨hi22, hw⟩ := hw
        refine va_iald (f := (xRo S21)) hx hb hK hP 7 0 (XWc_7 cI cL cZ h a S21) rfl hi22 dX_roll_141 ?_
        refine lv_iconst (v := 1) hx hb dX_roll_142 (by decide) ?_
        refine lv_iadd hx hb dX_roll_143 ?_
        obtain ⟨hi23, hw⟩ := hw
        refine g_iast (wf := XW cI cL cZ h a) (S' := xuRo S21 r17 ((xRo S21 p0.toNatClampNeg) + 1)) hx hb hK hP hD hS 7 0 (XWc_7 cI cL cZ h a S21) rfl rfl hi23 dX_roll_144 (fun S24 eS24 H locs hP hD hS => ?_)
        have hw := hw S24 eS24
        refine lv_iload hx hb dX_roll_145 (lv_at hl 0 rfl) ?_
        exact gx_i hx hb hr hlocks hK hP hD hS hw dX_roll_147
      · have c12 : ¬ v4_10 ≤ 1000000000 := fun h9 => c12 ((lg_cmp_le _ _).mpr h9)
        have hw := hw.2 c12
        exact g_throw (own := RX9) (cls := "java/lang/UnsupportedOperationException") (text := "the rolled piece would be too short or long") hx hb hl9 hown (hto (.classLink RX9 95 "java/lang/UnsupportedOperationException") (by decide +kernel)) (hto (.initialized "java/lang/UnsupportedOperationException") (by decide +kernel)) (hG.2.2.1 (RX9, 108, "the rolled piece would be too short or long") (by decide +kernel)) (g_at_UOE hts hG) gF_UOE gN_ gO_UOE_95 hG hK hP hD hS (hl.1.trans hml.symm) dX_roll_80 dX_roll_83 dX_roll_84 dX_roll_86 dX_roll_89 hEx (Nat.le_of_ble_eq_true rfl) (Nat.le_of_ble_eq_true rfl) (Nat.le_of_ble_eq_true rfl) (Nat.le_of_ble_eq_true rfl) hlocks hw (Nat.le_of_ble_eq_true rfl) (Nat.le_of_ble_eq_true rfl)
  · have hw := hw.2 c7
    exact g_throw (own := RX9) (cls := "java/lang/UnsupportedOperationException") (text := "the piece has been rolled three times") hx hb hl9 hown (hto (.classLink RX9 95 "java/lang/UnsupportedOperationException") (by decide +kernel)) (hto (.initialized "java/lang/UnsupportedOperationException") (by decide +kernel)) (hG.2.2.1 (RX9, 106, "the piece has been rolled three times") (by decide +kernel)) (g_at_UOE hts hG) gF_UOE gN_ gO_UOE_95 hG hK hP hD hS (hl.1.trans hml.symm) dX_roll_39 dX_roll_42 dX_roll_43 dX_roll_45 dX_roll_48 hEx (Nat.le_of_ble_eq_true rfl) (Nat.le_of_ble_eq_true rfl) (Nat.le_of_ble_eq_true rfl) (Nat.le_of_ble_eq_true rfl) hlocks hw (Nat.le_of_ble_eq_true rfl) (Nat.le_of_ble_eq_true rfl)
def wpL_X_slit_70 (post : Int32 → XSt → Prop) (xp : String → XSt → Prop) (p0 : Int32) (p1 : Int32) : Nat → XSt → Int32 → Int32 → Int32 → Prop
  | 0 => fun _ _ _ _ => False
  | n + 1 => fun S u3 u5 u6 => ((p1 ≤ u6 → (post u5 S)) ∧ (¬ p1 ≤ u6 → (vp_in p0 40 ∧ (wp_X_addPiece (fun r18 S17 => (∀ v6_19 : Int32, v6_19 = u6 + 1 → (wpL_X_slit_70 post xp p0 p1 n S17 u3 u5 v6_19))) 5 p0 u3 (xLe S p0.toNatClampNeg) S))))
def wp_X_slit (post : Int32 → XSt → Prop) (xp : String → XSt → Prop) (p0 : Int32) (p1 : Int32) (S : XSt) : Prop := (wp_X_needPiece (fun  S1 => (wp_X_needFree (fun  S2 => (wp_X_needWithin (fun  S3 => (wp_X_needRoom (fun  S4 => (vp_in p0 40 ∧ (¬ p1 = 0 ∧ (∀ v3_7 : Int32, v3_7 = ((xWe S4 p0.toNatClampNeg) / p1) → (vp_in p0 40 ∧ (∀ v4_9 : Int32, v4_9 = ((xWe S4 p0.toNatClampNeg) - (v3_7 * (p1 - 1))) → (vp_in p0 40 ∧ (∀ S11 : XSt, S11 = xuSt S4 p0 1 → (vp_in p0 40 ∧ (wp_X_addPiece (fun r14 S13 => (∃ n : Nat, wpL_X_slit_70 post xp p0 p1 n S13 v3_7 r14 1)) 5 p0 v4_9 (xLe S11 p0.toNatClampNeg) S11)))))))))) xp p1 S3)) xp p1 2 4 S2)) xp p0 S1)) xp p0 S)
set_option maxHeartbeats 4000000 in
set_option maxRecDepth 100000 in
theorem c_X_slit (l : Launch) (hl9 : l.stackTraces = false) (D : va_G) (cI cL cZ : ClassId) (h : Nat) (a : Nat → Nat) (post : Int32 → XSt → Prop) (xp : String → XSt → Prop) (p0 : Int32) (p1 : Int32) (S : XSt) (hw : wp_X_slit post xp p0 p1 S) : gXi l yX_slit wsX_slit ({ frames := 7, cells := 1, slots := 6, locals := 104 }) D [(cI, .int), (cL, .long), (cZ, .boolean)] [.ref h, .int p0, .int p1] (XW cI cL cZ h a S) (XW cI cL cZ h a) post xp := by
  refine g_ofXi (cc := cX_slit) (maxL := 7) (ret := (some .int)) (own := RX9) (by decide) rfl rfl (Nat.le_of_ble_eq_true rfl) ?_
  intro p e s m below meth c A H locs ls C hr hlocks hEx hK hG hA hP hD hS hl
  obtain ⟨hx, hb, hml, hown, hts⟩ := id C
  have hts := fun w (h9 : w ∈ gW) => hts w (List.mem_cons_of_mem _ h9)
  have hto := fun w (h9 : w ∈ gWo) => hts w (gWo_in w h9)
  have hl : lv_has ls 7 [(0, .ref h), (1, .int p0), (2, .int p1)] := hl
  dsimp only [wp_X_slit] at hw
  refine lv_aload_n hx hb dX_slit_0 rfl (lv_at hl 0 rfl) ?_
  refine lv_iload_n hx hb dX_slit_1 rfl (lv_at hl 1 rfl) ?_
  refine gk_xv (wr := []) (wc := XW cI cL cZ h a S) (wfc := XW cI cL cZ h a) hP hD hS hA (vx_runV (As := [.int p0]) (rest := []) C (c_X_needPiece l hl9 D cI cL cZ h a _ _ p0 S hw H.size) (cwV 1 hts (gGV (by decide +kernel) kX_needPiece) rfl rfl rfl (by decide +kernel) ⟨Nat.le_of_ble_eq_true rfl, Nat.le_of_ble_eq_true rfl⟩) (g_preV (wr := []) (wc := XW cI cL cZ h a S) (ci := 1) hK hG hA hP hD hS rfl (XWc_0 cI cL cZ h a S) rfl) rfl rfl hl.1 rfl (lv_room (Nat.le_of_ble_eq_true rfl)) dX_slit_2 ⟨Nat.le_of_ble_eq_true rfl, Nat.le_of_ble_eq_true rfl⟩) (fun E S1 ce q9 H locs hw hP hD hS hce hcv hcl => ?_) (fun  S1 H locs hw hP hD hS => ?_)
  · exact gx_out hEx hlocks hce hcv hcl hK hw hP hD hS (Nat.le_of_ble_eq_true rfl) (Nat.le_of_ble_eq_true rfl)
  have hP : va_P D vwCl (XW cI cL cZ h a S1) H := hP
  have hD : va_D A (XW cI cL cZ h a S1) := hD
  refine lv_aload_n hx hb dX_slit_5 rfl (lv_at hl 0 rfl) ?_
  refine lv_iload_n hx hb dX_slit_6 rfl (lv_at hl 1 rfl) ?_
  refine gk_xv (wr := []) (wc := XW cI cL cZ h a S1) (wfc := XW cI cL cZ h a) hP hD hS hA (vx_runV (As := [.int p0]) (rest := []) C (c_X_needFree l hl9 D cI cL cZ h a _ _ p0 S1 hw H.size) (cwV 1 hts (gGV (by decide +kernel) kX_needFree) rfl rfl rfl (by decide +kernel) ⟨Nat.le_of_ble_eq_true rfl, Nat.le_of_ble_eq_true rfl⟩) (g_preV (wr := []) (wc := XW cI cL cZ h a S1) (ci := 1) hK hG hA hP hD hS rfl (XWc_0 cI cL cZ h a S1) rfl) rfl rfl hl.1 rfl (lv_room (Nat.le_of_ble_eq_true rfl)) dX_slit_7 ⟨Nat.le_of_ble_eq_true rfl, Nat.le_of_ble_eq_true rfl⟩) (fun E S2 ce q9 H locs hw hP hD hS hce hcv hcl => ?_) (fun  S2 H locs hw hP hD hS => ?_)
  · exact gx_out hEx hlocks hce hcv hcl hK hw hP hD hS (Nat.le_of_ble_eq_true rfl) (Nat.le_of_ble_eq_true rfl)
  have hP : va_P D vwCl (XW cI cL cZ h a S2) H := hP
  have hD : va_D A (XW cI cL cZ h a S2) := hD
  refine lv_iload_n hx hb dX_slit_10 rfl (lv_at hl 2 rfl) ?_
  refine lv_iconst (v := 2) hx hb dX_slit_11 (by decide) ?_
  refine lv_iconst (v := 4) hx hb dX_slit_12 (by decide) ?_
  refine gk_xv (wr := []) (wc := XW cI cL cZ h a S2) (wfc := XW cI cL cZ h a) hP hD hS hA (vx_runS (As := [.int p1, .int 2, .int 4]) (rest := []) C (c_X_needWithin l hl9 D cI cL cZ h a _ _ p1 2 4 S2 hw H.size) (va_cwS 3 hts (gGS (by decide +kernel) kX_needWithin) rfl rfl rfl (by decide +kernel) ⟨Nat.le_of_ble_eq_true rfl, Nat.le_of_ble_eq_true rfl⟩) (g_preS (wr := []) (wc := XW cI cL cZ h a S2) hK hG hA hP hD hS) rfl rfl hl.1 rfl (lv_room (Nat.le_of_ble_eq_true rfl)) dX_slit_13 ⟨Nat.le_of_ble_eq_true rfl, Nat.le_of_ble_eq_true rfl⟩) (fun E S3 ce q9 H locs hw hP hD hS hce hcv hcl => ?_) (fun  S3 H locs hw hP hD hS => ?_)
  · exact gx_out hEx hlocks hce hcv hcl hK hw hP hD hS (Nat.le_of_ble_eq_true rfl) (Nat.le_of_ble_eq_true rfl)
  have hP : va_P D vwCl (XW cI cL cZ h a S3) H := hP
  have hD : va_D A (XW cI cL cZ h a S3) := hD
  refine lv_aload_n hx hb dX_slit_16 rfl (lv_at hl 0 rfl) ?_
  refine lv_iload_n hx hb dX_slit_17 rfl (lv_at hl 2 rfl) ?_
  refine gk_xv (wr := []) (wc := XW cI cL cZ h a S3) (wfc := XW cI cL cZ h a) hP hD hS hA (vx_runV (As := [.int p1]) (rest := []) C (c_X_needRoom l hl9 D cI cL cZ h a _ _ p1 S3 hw H.size) (cwV 1 hts (gGV (by decide +kernel) kX_needRoom) rfl rfl rfl (by decide +kernel) ⟨Nat.le_of_ble_eq_true rfl, Nat.le_of_ble_eq_true rfl⟩) (g_preV (wr := []) (wc := XW cI cL cZ h a S3) (ci := 1) hK hG hA hP hD hS rfl (XWc_0 cI cL cZ h a S3) rfl) rfl rfl hl.1 rfl (lv_room (Nat.le_of_ble_eq_true rfl)) dX_slit_18 ⟨Nat.le_of_ble_eq_true rfl, Nat.le_of_ble_eq_true rfl⟩) (fun E S4 ce q9 H locs hw hP hD hS hce hcv hcl => ?_) (fun  S4 H locs hw hP hD hS => ?_)
  · exact gx_out hEx hlocks hce hcv hcl hK hw hP hD hS (Nat.le_of_ble_eq_true rfl) (Nat.le_of_ble_eq_true rfl)
  have hP : va_P D vwCl (XW cI cL cZ h a S4) H := hP
  have hD : va_D A (XW cI cL cZ h a S4) := hD
  refine lv_aload_n hx hb dX_slit_21 rfl (lv_at hl 0 rfl) ?_
  refine va_get (ci := 1) (v := .ref (a 1)) (C := RX9) (T := TX9) (N := 20) hx hb hts iX9 hown hK hP 0 (XWc_0 cI cL cZ h a S4) rfl 1 (by decide) (hto (.fieldLink RX9 13 "PieceTrace" "weights" "[I") (by decide +kernel)) (fun _ h9 => h9) rfl dX_slit_22 ?_
  refine lv_iload_n hx hb dX_slit_25 rfl (lv_at hl 1 rfl) ?_
  obtain ⟨hi5, hw⟩ := hw
  refine va_iald (f := (xWe S4)) hx hb hK hP 2 0 (XWc_2 cI cL cZ h a S4) rfl hi5 dX_slit_26 ?_
  refine lv_iload_n hx hb dX_slit_27 rfl (lv_at hl 2 rfl) ?_
  obtain ⟨hz6, hw⟩ := hw
  refine lv_idiv hx hb dX_slit_28 hz6 ?_
  refine lv_topi (fun v3_7 ev3_7 => ?_)
  have hw := hw v3_7 ev3_7
  refine lv_istore_n (lv' := [(3, .int v3_7), (0, .ref h), (1, .int p0), (2, .int p1)]) hx hb dX_slit_29 rfl hl (by decide) rfl (fun ls hl => ?_)
  refine lv_aload_n hx hb dX_slit_30 rfl (lv_at hl 1 rfl) ?_
  refine va_get (ci := 1) (v := .ref (a 1)) (C := RX9) (T := TX9) (N := 20) hx hb hts iX9 hown hK hP 0 (XWc_0 cI cL cZ h a S4) rfl 1 (by decide) (hto (.fieldLink RX9 13 "PieceTrace" "weights" "[I") (by decide +kernel)) (fun _ h9 => h9) rfl dX_slit_31 ?_
  refine lv_iload_n hx hb dX_slit_34 rfl (lv_at hl 2 rfl) ?_
  obtain ⟨hi8, hw⟩ := hw
  refine va_iald (f := (xWe S4)) hx hb hK hP 2 0 (XWc_2 cI cL cZ h a S4) rfl hi8 dX_slit_35 ?_
  refine lv_iload_n hx hb dX_slit_36 rfl (lv_at hl 0 rfl) ?_
  refine lv_iload_n hx hb dX_slit_37 rfl (lv_at hl 3 rfl) ?_
  refine lv_iconst (v := 1) hx hb dX_slit_38 (by decide) ?_
  refine lv_isub hx hb dX_slit_39 ?_
  refine lv_imul hx hb dX_slit_40 ?_
  refine lv_isub hx hb dX_slit_41 ?_
  refine lv_topi (fun v4_9 ev4_9 => ?_)
  have hw := hw v4_9 ev4_9
  refine lv_istore (lv' := [(4, .int v4_9), (3, .int v3_7), (0, .ref h), (1, .int p0), (2, .int p1)]) hx hb dX_slit_42 hl (by decide) rfl (fun ls hl => ?_)
  refine lv_aload_n hx hb dX_slit_44 rfl (lv_at hl 2 rfl) ?_
  refine va_get (ci := 1) (v := .ref (a 3)) (C := RX9) (T := TX9) (N := 20) hx hb hts iX9 hown hK hP 0 (XWc_0 cI cL cZ h a S4) rfl 3 (by decide) (hto (.fieldLink RX9 19 "PieceTrace" "states" "[I") (by decide +kernel)) (fun _ h9 => h9) rfl dX_slit_45 ?_
  refine lv_iload_n hx hb dX_slit_48 rfl (lv_at hl 3 rfl) ?_
  refine lv_iconst (v := 1) hx hb dX_slit_49 (by decide) ?_
  obtain ⟨hi10, hw⟩ := hw
  refine g_iast (wf := XW cI cL cZ h a) (S' := xuSt S4 p0 1) hx hb hK hP hD hS 4 0 (XWc_4 cI cL cZ h a S4) rfl rfl hi10 dX_slit_50 (fun S11 eS11 H locs hP hD hS => ?_)
  have hw := hw S11 eS11
  refine lv_aload_n hx hb dX_slit_51 rfl (lv_at hl 2 rfl) ?_
  refine lv_iconst (v := 5) hx hb dX_slit_52 (by decide) ?_
  refine lv_iload_n hx hb dX_slit_53 rfl (lv_at hl 3 rfl) ?_
  refine lv_iload hx hb dX_slit_54 (lv_at hl 0 rfl) ?_
  refine lv_aload_n hx hb dX_slit_56 rfl (lv_at hl 2 rfl) ?_
  refine va_get (ci := 1) (v := .ref (a 2)) (C := RX9) (T := TX9) (N := 20) hx hb hts iX9 hown hK hP 0 (XWc_0 cI cL cZ h a S11) rfl 2 (by decide) (hto (.fieldLink RX9 16 "PieceTrace" "lengths" "[I") (by decide +kernel)) (fun _ h9 => h9) rfl dX_slit_57 ?_
  refine lv_iload_n hx hb dX_slit_60 rfl (lv_at hl 3 rfl) ?_
  obtain ⟨hi12, hw⟩ := hw
  refine va_iald (f := (xLe S11)) hx hb hK hP 3 0 (XWc_3 cI cL cZ h a S11) rfl hi12 dX_slit_61 ?_
  refine gk_i (wr := []) (wc := XW cI cL cZ h a S11) (wfc := XW cI cL cZ h a) hP hD hS hA (va_runV (As := [.int 5, .int p0, .int v4_9, .int (xLe S11 p0.toNatClampNeg)]) (rest := []) C (c_X_addPiece l hl9 D cI cL cZ h a _ 5 p0 v4_9 (xLe S11 p0.toNatClampNeg) S11 hw H.size) (cwV 4 hts (gGV (by decide +kernel) kX_addPiece) rfl rfl rfl (by decide +kernel) ⟨Nat.le_of_ble_eq_true rfl, Nat.le_of_ble_eq_true rfl⟩) (g_preV (wr := []) (wc := XW cI cL cZ h a S11) (ci := 1) hK hG hA hP hD hS rfl (XWc_0 cI cL cZ h a S11) rfl) rfl rfl hl.1 rfl (lv_room (Nat.le_of_ble_eq_true rfl)) dX_slit_62 ⟨Nat.le_of_ble_eq_true rfl, Nat.le_of_ble_eq_true rfl⟩) (fun r14 S13 H locs hw hP hD hS => ?_)
  have hP : va_P D vwCl (XW cI cL cZ h a S13) H := hP
  have hD : va_D A (XW cI cL cZ h a S13) := hD
  refine lv_istore (lv' := [(5, .int r14), (4, .int v4_9), (3, .int v3_7), (0, .ref h), (1, .int p0), (2, .int p1)]) hx hb dX_slit_65 hl (by decide) rfl (fun ls hl => ?_)
  refine lv_iconst (v := 1) hx hb dX_slit_67 (by decide) ?_
  refine lv_istore (lv' := [(6, .int 1), (5, .int r14), (4, .int v4_9), (3, .int v3_7), (0, .ref h), (1, .int p0), (2, .int p1)]) hx hb dX_slit_68 hl (by decide) rfl (fun ls hl => ?_)
  obtain ⟨n, hw⟩ := hw
  have hL : ∀ (n : Nat) (S : XSt) (u3 : Int32) (u5 : Int32) (u6 : Int32) (H : Heap) (locs : List Loc) (ls : Array Slot), wpL_X_slit_70 post xp p0 p1 n S u3 u5 u6 → va_P D vwCl (XW cI cL cZ h a S) H → va_D A (XW cI cL cZ h a S) → va_S A s.heap H locs → lv_has ls 7 [(3, .int u3), (5, .int u5), (6, .int u6), (0, .ref h), (1, .int p0), (2, .int p1)] → W p l e (headSpec wsX_slit { frames := 7, cells := 1, slots := 6, locals := 104 }).room s m ([.ref h, .int p0, .int p1] : List Value).toArray below meth c H locs 0 0 (vx_MQ below (gT (gQi D [(cI, .int), (cL, .long), (cZ, .boolean)] (XW cI cL cZ h a) post A) A) (gXC D [(cI, .int), (cL, .long), (cZ, .boolean)] (XW cI cL cZ h a) xp A) ([.ref h, .int p0, .int p1] : List Value).toArray s 1 6 A) (F0 m 70 ls []) := by
    intro n
    induction n with
    | zero => intro S u3 u5 u6 H locs ls hw; exact hw.elim
    | succ n ih =>
      intro S u3 u5 u6 H locs ls hw hP hD hS hl
      dsimp only [wpL_X_slit_70] at hw
      refine lv_iload hx hb dX_slit_70 (lv_at hl 2 rfl) ?_
      refine lv_iload_n hx hb dX_slit_72 rfl (lv_at hl 5 rfl) ?_
      refine lv_icmp_ge (tgt := 96) hx hb dX_slit_73 (by decide) (fun c15 => ?_) (fun c15 => ?_)
      · have hw := hw.1 c15
        refine lv_iload hx hb dX_slit_96 (lv_at hl 1 rfl) ?_
        exact gx_i hx hb hr hlocks hK hP hD hS hw dX_slit_98
      · have hw := hw.2 c15
        refine lv_aload_n hx hb dX_slit_76 rfl (lv_at hl 3 rfl) ?_
        refine lv_iconst (v := 5) hx hb dX_slit_77 (by decide) ?_
        refine lv_iload_n hx hb dX_slit_78 rfl (lv_at hl 4 rfl) ?_
        refine lv_iload_n hx hb dX_slit_79 rfl (lv_at hl 0 rfl) ?_
        refine lv_aload_n hx hb dX_slit_80 rfl (lv_at hl 3 rfl) ?_
        refine va_get (ci := 1) (v := .ref (a 2)) (C := RX9) (T := TX9) (N := 20) hx hb hts iX9 hown hK hP 0 (XWc_0 cI cL cZ h a S) rfl 2 (by decide) (hto (.fieldLink RX9 16 "PieceTrace" "lengths" "[I") (by decide +kernel)) (fun _ h9 => h9) rfl dX_slit_81 ?_
        refine lv_iload_n hx hb dX_slit_84 rfl (lv_at hl 4 rfl) ?_
        obtain ⟨hi16, hw⟩ := hw
        refine va_iald (f := (xLe S)) hx hb hK hP 3 0 (XWc_3 cI cL cZ h a S) rfl hi16 dX_slit_85 ?_
        refine gk_i (wr := []) (wc := XW cI cL cZ h a S) (wfc := XW cI cL cZ h a) hP hD hS hA (va_runV (As := [.int 5, .int p0, .int u3, .int (xLe S p0.toNatClampNeg)]) (rest := []) C (c_X_addPiece l hl9 D cI cL cZ h a _ 5 p0 u3 (xLe S p0.toNatClampNeg) S hw H.size) (cwV 4 hts (gGV (by decide +kernel) kX_addPiece) rfl rfl rfl (by decide +kernel) ⟨Nat.le_of_ble_eq_true rfl, Nat.le_of_ble_eq_true rfl⟩) (g_preV (wr := []) (wc := XW cI cL cZ h a S) (ci := 1) hK hG hA hP hD hS rfl (XWc_0 cI cL cZ h a S) rfl) rfl rfl hl.1 rfl (lv_room (Nat.le_of_ble_eq_true rfl)) dX_slit_86 ⟨Nat.le_of_ble_eq_true rfl, Nat.le_of_ble_eq_true rfl⟩) (fun r18 S17 H locs hw hP hD hS => ?_)
        have hP : va_P D vwCl (XW cI cL cZ h a S17) H := hP
        have hD : va_D A (XW cI cL cZ h a S17) := hD
        refine lv_pop hx hb dX_slit_89 rfl ?_
        obtain ⟨v6_19, ev6_19⟩ : ∃ y : Int32, y = u6 + 1 := ⟨_, rfl⟩
        have hw := hw v6_19 ev6_19
        refine lv_iinc (v := v6_19) (lv' := [(6, .int v6_19), (3, .int u3), (5, .int u5), (0, .ref h), (1, .int p0), (2, .int p1)]) hx hb dX_slit_90 hl (k := 2) rfl (by rw [ev6_19]; rfl) (by decide) rfl (fun ls hl => ?_)
        refine lv_goto (tgt := 70) hx hb dX_slit_93 (by decide) ?_
        refine W.widen (k := 0) (n := 0) (Nat.le_of_ble_eq_true rfl) (Nat.le_of_ble_eq_true rfl) ?_
        exact ih S17 u3 u5 v6_19 H locs ls hw hP hD hS (lv_sub hl [1, 2, 0, 3, 4, 5] rfl)
  refine W.widen (k := 0) (n := 0) (Nat.le_of_ble_eq_true rfl) (Nat.le_of_ble_eq_true rfl) ?_
  exact hL n S13 v3_7 r14 1 H locs ls hw hP hD hS (lv_sub hl [3, 1, 0, 4, 5, 6] rfl)
