abbrev LSt : Type := (Nat → Int64) × XSt
abbrev lO (T : LSt) : Nat → Int64 := T.1
def luO (T : LSt) (i : Int32) (x : Int64) : LSt := (vp_updL T.1 i.toNatClampNeg x, T.2)
def LWf (cI cL cZ : ClassId) (h : Nat) (a : Nat → Nat) (o : Nat) (T : LSt) : va_W := [(o, .inl (cL, 1, .inr (.inl T.1)))] ++ XW cI cL cZ h a T.2
theorem LWc_0 (cI cL cZ : ClassId) (h : Nat) (a : Nat → Nat) (o : Nat) (T : LSt) : (LWf cI cL cZ h a o T)[0]? = some (o, .inl (cL, 1, .inr (.inl (lO T)))) := rfl
abbrev GSt : Type := MSt × LSt
abbrev gO (T : GSt) : Nat → Int64 := T.2.1
def GWf (cI cL cZ : ClassId) (h : Nat) (a : Nat → Nat) (o hm : Nat) (am : Nat → Nat) (T : GSt) : va_W := MW cI cL cZ hm am T.1 ++ LWf cI cL cZ h a o T.2
theorem GWc_17 (cI cL cZ : ClassId) (h : Nat) (a : Nat → Nat) (o hm : Nat) (am : Nat → Nat) (T : GSt) : (GWf cI cL cZ h a o hm am T)[17]? = some (o, .inl (cL, 1, .inr (.inl (gO T)))) := rfl
def wp_L_melt (post : Int32 → LSt → Prop) (p0 : Int32) (p1 : Int32) (S : LSt) : Prop := (wp_X_melt (fun r2 S1 => (vp_in 0 1 ∧ (∀ S4 : LSt, S4 = luO (S.1, S1) 0 r2.toInt64 → (post 0 S4)))) (fun E S1 => (E = "java/lang/IllegalArgumentException" ∧ (post 1 (S.1, S1))) ∨ (E = "java/lang/UnsupportedOperationException" ∧ (post 2 (S.1, S1)))) p0 p1 S.2)
set_option maxHeartbeats 4000000 in
set_option maxRecDepth 100000 in
theorem c_L_melt (l : Launch) (hl9 : l.stackTraces = false) (D : va_G) (cI cL cZ : ClassId) (h : Nat) (a : Nat → Nat) (o : Nat) (post : Int32 → LSt → Prop) (p0 : Int32) (p1 : Int32) (S : LSt) (hw : wp_L_melt post p0 p1 S) : gMi l yL_melt wsL_melt ({ frames := 8, cells := 1, slots := 6, locals := 126 }) D [(cI, .int), (cL, .long), (cZ, .boolean)] [.ref h, .int p0, .int p1, .ref o] (LWf cI cL cZ h a o S) (LWf cI cL cZ h a o) post := by
  refine g_ofWi (cc := cL_melt) (maxL := 5) (ret := (some .int)) (own := RL9) (by decide) rfl rfl (Nat.le_of_ble_eq_true rfl) ?_
  intro p e s m below meth c A H locs ls C hr hlocks hTab hK hG hA hP hD hS hl
  obtain ⟨hx, hb, hml, hown, hts⟩ := id C
  have hts := fun w (h9 : w ∈ gW) => hts w (List.mem_cons_of_mem _ h9)
  have hto := fun w (h9 : w ∈ gWo) => hts w (gWo_in w h9)
  have hl : lv_has ls 5 [(0, .ref h), (1, .int p0), (2, .int p1), (3, .ref o)] := hl
  dsimp only [wp_L_melt] at hw
  refine lv_aload_n hx hb dL_melt_0 rfl (lv_at hl 3 rfl) ?_
  refine lv_iconst (v := 0) hx hb dL_melt_1 (by decide) ?_
  refine lv_aload_n hx hb dL_melt_2 rfl (lv_at hl 0 rfl) ?_
  refine lv_iload_n hx hb dL_melt_3 rfl (lv_at hl 1 rfl) ?_
  refine lv_iload_n hx hb dL_melt_4 rfl (lv_at hl 2 rfl) ?_
  refine gk_xi (wr := [(o, .inl (cL, 1, .inr (.inl S.1)))]) (wc := XW cI cL cZ h a S.2) (wfc := XW cI cL cZ h a) hP hD hS hA (vx_runV (As := [.int p0, .int p1]) (rest := [.int 0, .ref o]) C (c_X_melt l hl9 D cI cL cZ h a _ _ p0 p1 S.2 hw H.size) (cwV 2 hts (gGV (by decide +kernel) kX_melt) rfl rfl rfl (by decide +kernel) ⟨Nat.le_of_ble_eq_true rfl, Nat.le_of_ble_eq_true rfl⟩) (g_preV (wr := [(o, .inl (cL, 1, .inr (.inl S.1)))]) (wc := XW cI cL cZ h a S.2) (ci := 1) hK hG hA hP hD hS rfl (XWc_0 cI cL cZ h a S.2) rfl) rfl rfl hl.1 rfl (lv_room (Nat.le_of_ble_eq_true rfl)) dL_melt_5 ⟨Nat.le_of_ble_eq_true rfl, Nat.le_of_ble_eq_true rfl⟩) (fun E S1 ce q9 H locs hw hP hD hS hce hcv hcl => ?_) (fun r2 S1 H locs hw hP hD hS => ?_)
  · have hP : va_P D vwCl (LWf cI cL cZ h a o (S.1, S1)) H := hP
    have hD : va_D A (LWf cI cL cZ h a o (S.1, S1)) := hD
    rcases hw with ⟨rfl, hw⟩ | ⟨rfl, hw⟩
    · refine vx_catch (own := RL9) (name := "java/lang/IllegalArgumentException") (E := "java/lang/IllegalArgumentException") hown [] ⟨0, 10, 13, 13⟩ [⟨0, 10, 17, 15⟩] (by rw [hTab]; rfl) (fun z hz => nomatch hz) (by decide) (by decide) (hto (.classLink RL9 13 "java/lang/IllegalArgumentException") (by decide +kernel)) (va_Nw.use rfl (hG.1 (.castable "java/lang/IllegalArgumentException" "java/lang/IllegalArgumentException") (by decide +kernel))) hce hcv hcl ?_
      refine lv_astore (lv' := [(4, .ref q9), (0, .ref h), (1, .int p0), (2, .int p1), (3, .ref o)]) hx hb dL_melt_13 hl (by decide) rfl (fun ls hl => ?_)
      refine lv_iconst (v := 1) hx hb dL_melt_15 (by decide) ?_
      exact gr_i hx hb hr hlocks hK hP hD hS hw (Nat.le_of_ble_eq_true rfl) (Nat.le_of_ble_eq_true rfl) dL_melt_16
    · refine vx_catch (own := RL9) (name := "java/lang/UnsupportedOperationException") (E := "java/lang/UnsupportedOperationException") hown [⟨0, 10, 13, 13⟩] ⟨0, 10, 17, 15⟩ [] (by rw [hTab]; rfl) (by
          intro z hz
          rcases List.mem_cons.mp hz with rfl | hz
          · exact Or.inr ⟨by decide, "java/lang/IllegalArgumentException", (hto (.classLink RL9 13 "java/lang/IllegalArgumentException") (by decide +kernel)), hG.2.1 ("java/lang/UnsupportedOperationException", "java/lang/IllegalArgumentException") (by decide +kernel)⟩
          cases hz) (by decide) (by decide) (hto (.classLink RL9 15 "java/lang/UnsupportedOperationException") (by decide +kernel)) (va_Nw.use rfl (hG.1 (.castable "java/lang/UnsupportedOperationException" "java/lang/UnsupportedOperationException") (by decide +kernel))) hce hcv hcl ?_
      refine lv_astore (lv' := [(4, .ref q9), (0, .ref h), (1, .int p0), (2, .int p1), (3, .ref o)]) hx hb dL_melt_17 hl (by decide) rfl (fun ls hl => ?_)
      refine lv_iconst (v := 2) hx hb dL_melt_19 (by decide) ?_
      exact gr_i hx hb hr hlocks hK hP hD hS hw (Nat.le_of_ble_eq_true rfl) (Nat.le_of_ble_eq_true rfl) dL_melt_20
  have hP : va_P D vwCl (LWf cI cL cZ h a o (S.1, S1)) H := hP
  have hD : va_D A (LWf cI cL cZ h a o (S.1, S1)) := hD
  refine lv_i2l (v := r2.toInt64) hx hb dL_melt_8 rfl ?_
  obtain ⟨hi3, hw⟩ := hw
  refine g_last (wf := LWf cI cL cZ h a o) (S' := luO (S.1, S1) 0 r2.toInt64) hx hb hK hP hD hS 0 1 (LWc_0 cI cL cZ h a o (S.1, S1)) rfl rfl hi3 dL_melt_9 (fun S4 eS4 H locs hP hD hS => ?_)
  have hw := hw S4 eS4
  refine lv_goto (tgt := 21) hx hb dL_melt_10 (by decide) ?_
  refine lv_iconst (v := 0) hx hb dL_melt_21 (by decide) ?_
  exact gr_i hx hb hr hlocks hK hP hD hS hw (Nat.le_of_ble_eq_true rfl) (Nat.le_of_ble_eq_true rfl) dL_melt_22
def wp_L_cut (post : Int32 → LSt → Prop) (p0 : Int32) (p1 : Int32) (S : LSt) : Prop := (wp_X_cut (fun r2 S1 => (vp_in 0 1 ∧ (∀ S4 : LSt, S4 = luO (S.1, S1) 0 r2.toInt64 → (post 0 S4)))) (fun E S1 => (E = "java/lang/IndexOutOfBoundsException" ∧ (post 1 (S.1, S1))) ∨ (E = "java/lang/IllegalStateException" ∧ (post 2 (S.1, S1))) ∨ (E = "java/lang/IllegalArgumentException" ∧ (post 3 (S.1, S1))) ∨ (E = "java/lang/UnsupportedOperationException" ∧ (post 4 (S.1, S1)))) p0 p1 S.2)
set_option maxHeartbeats 4000000 in
set_option maxRecDepth 100000 in
theorem c_L_cut (l : Launch) (hl9 : l.stackTraces = false) (D : va_G) (cI cL cZ : ClassId) (h : Nat) (a : Nat → Nat) (o : Nat) (post : Int32 → LSt → Prop) (p0 : Int32) (p1 : Int32) (S : LSt) (hw : wp_L_cut post p0 p1 S) : gMi l yL_cut wsL_cut ({ frames := 8, cells := 1, slots := 6, locals := 131 }) D [(cI, .int), (cL, .long), (cZ, .boolean)] [.ref h, .int p0, .int p1, .ref o] (LWf cI cL cZ h a o S) (LWf cI cL cZ h a o) post := by
  refine g_ofWi (cc := cL_cut) (maxL := 5) (ret := (some .int)) (own := RL9) (by decide) rfl rfl (Nat.le_of_ble_eq_true rfl) ?_
  intro p e s m below meth c A H locs ls C hr hlocks hTab hK hG hA hP hD hS hl
  obtain ⟨hx, hb, hml, hown, hts⟩ := id C
  have hts := fun w (h9 : w ∈ gW) => hts w (List.mem_cons_of_mem _ h9)
  have hto := fun w (h9 : w ∈ gWo) => hts w (gWo_in w h9)
  have hl : lv_has ls 5 [(0, .ref h), (1, .int p0), (2, .int p1), (3, .ref o)] := hl
  dsimp only [wp_L_cut] at hw
  refine lv_aload_n hx hb dL_cut_0 rfl (lv_at hl 3 rfl) ?_
  refine lv_iconst (v := 0) hx hb dL_cut_1 (by decide) ?_
  refine lv_aload_n hx hb dL_cut_2 rfl (lv_at hl 0 rfl) ?_
  refine lv_iload_n hx hb dL_cut_3 rfl (lv_at hl 1 rfl) ?_
  refine lv_iload_n hx hb dL_cut_4 rfl (lv_at hl 2 rfl) ?_
  refine gk_xi (wr := [(o, .inl (cL, 1, .inr (.inl S.1)))]) (wc := XW cI cL cZ h a S.2) (wfc := XW cI cL cZ h a) hP hD hS hA (vx_runV (As := [.int p0, .int p1]) (rest := [.int 0, .ref o]) C (c_X_cut l hl9 D cI cL cZ h a _ _ p0 p1 S.2 hw H.size) (cwV 2 hts (gGV (by decide +kernel) kX_cut) rfl rfl rfl (by decide +kernel) ⟨Nat.le_of_ble_eq_true rfl, Nat.le_of_ble_eq_true rfl⟩) (g_preV (wr := [(o, .inl (cL, 1, .inr (.inl S.1)))]) (wc := XW cI cL cZ h a S.2) (ci := 1) hK hG hA hP hD hS rfl (XWc_0 cI cL cZ h a S.2) rfl) rfl rfl hl.1 rfl (lv_room (Nat.le_of_ble_eq_true rfl)) dL_cut_5 ⟨Nat.le_of_ble_eq_true rfl, Nat.le_of_ble_eq_true rfl⟩) (fun E S1 ce q9 H locs hw hP hD hS hce hcv hcl => ?_) (fun r2 S1 H locs hw hP hD hS => ?_)
  · have hP : va_P D vwCl (LWf cI cL cZ h a o (S.1, S1)) H := hP
    have hD : va_D A (LWf cI cL cZ h a o (S.1, S1)) := hD
    rcases hw with ⟨rfl, hw⟩ | ⟨rfl, hw⟩ | ⟨rfl, hw⟩ | ⟨rfl, hw⟩
    · refine vx_catch (own := RL9) (name := "java/lang/IndexOutOfBoundsException") (E := "java/lang/IndexOutOfBoundsException") hown [] ⟨0, 10, 13, 20⟩ [⟨0, 10, 17, 22⟩, ⟨0, 10, 21, 13⟩, ⟨0, 10, 25, 15⟩] (by rw [hTab]; rfl) (fun z hz => nomatch hz) (by decide) (by decide) (hto (.classLink RL9 20 "java/lang/IndexOutOfBoundsException") (by decide +kernel)) (va_Nw.use rfl (hG.1 (.castable "java/lang/IndexOutOfBoundsException" "java/lang/IndexOutOfBoundsException") (by decide +kernel))) hce hcv hcl ?_
      refine lv_astore (lv' := [(4, .ref q9), (0, .ref h), (1, .int p0), (2, .int p1), (3, .ref o)]) hx hb dL_cut_13 hl (by decide) rfl (fun ls hl => ?_)
      refine lv_iconst (v := 1) hx hb dL_cut_15 (by decide) ?_
      exact gr_i hx hb hr hlocks hK hP hD hS hw (Nat.le_of_ble_eq_true rfl) (Nat.le_of_ble_eq_true rfl) dL_cut_16
    · refine vx_catch (own := RL9) (name := "java/lang/IllegalStateException") (E := "java/lang/IllegalStateException") hown [⟨0, 10, 13, 20⟩] ⟨0, 10, 17, 22⟩ [⟨0, 10, 21, 13⟩, ⟨0, 10, 25, 15⟩] (by rw [hTab]; rfl) (by
          intro z hz
          rcases List.mem_cons.mp hz with rfl | hz
          · exact Or.inr ⟨by decide, "java/lang/IndexOutOfBoundsException", (hto (.classLink RL9 20 "java/lang/IndexOutOfBoundsException") (by decide +kernel)), hG.2.1 ("java/lang/IllegalStateException", "java/lang/IndexOutOfBoundsException") (by decide +kernel)⟩
          cases hz) (by decide) (by decide) (hto (.classLink RL9 22 "java/lang/IllegalStateException") (by decide +kernel)) (va_Nw.use rfl (hG.1 (.castable "java/lang/IllegalStateException" "java/lang/IllegalStateException") (by decide +kernel))) hce hcv hcl ?_
      refine lv_astore (lv' := [(4, .ref q9), (0, .ref h), (1, .int p0), (2, .int p1), (3, .ref o)]) hx hb dL_cut_17 hl (by decide) rfl (fun ls hl => ?_)
      refine lv_iconst (v := 2) hx hb dL_cut_19 (by decide) ?_
      exact gr_i hx hb hr hlocks hK hP hD hS hw (Nat.le_of_ble_eq_true rfl) (Nat.le_of_ble_eq_true rfl) dL_cut_20
    · refine vx_catch (own := RL9) (name := "java/lang/IllegalArgumentException") (E := "java/lang/IllegalArgumentException") hown [⟨0, 10, 13, 20⟩, ⟨0, 10, 17, 22⟩] ⟨0, 10, 21, 13⟩ [⟨0, 10, 25, 15⟩] (by rw [hTab]; rfl) (by
          intro z hz
          rcases List.mem_cons.mp hz with rfl | hz
          · exact Or.inr ⟨by decide, "java/lang/IndexOutOfBoundsException", (hto (.classLink RL9 20 "java/lang/IndexOutOfBoundsException") (by decide +kernel)), hG.2.1 ("java/lang/IllegalArgumentException", "java/lang/IndexOutOfBoundsException") (by decide +kernel)⟩
          rcases List.mem_cons.mp hz with rfl | hz
          · exact Or.inr ⟨by decide, "java/lang/IllegalStateException", (hto (.classLink RL9 22 "java/lang/IllegalStateException") (by decide +kernel)), hG.2.1 ("java/lang/IllegalArgumentException", "java/lang/IllegalStateException") (by decide +kernel)⟩
          cases hz) (by decide) (by decide) (hto (.classLink RL9 13 "java/lang/IllegalArgumentException") (by decide +kernel)) (va_Nw.use rfl (hG.1 (.castable "java/lang/IllegalArgumentException" "java/lang/IllegalArgumentException") (by decide +kernel))) hce hcv hcl ?_
      refine lv_astore (lv' := [(4, .ref q9), (0, .ref h), (1, .int p0), (2, .int p1), (3, .ref o)]) hx hb dL_cut_21 hl (by decide) rfl (fun ls hl => ?_)
      refine lv_iconst (v := 3) hx hb dL_cut_23 (by decide) ?_
      exact gr_i hx hb hr hlocks hK hP hD hS hw (Nat.le_of_ble_eq_true rfl) (Nat.le_of_ble_eq_true rfl) dL_cut_24
    · refine vx_catch (own := RL9) (name := "java/lang/UnsupportedOperationException") (E := "java/lang/UnsupportedOperationException") hown [⟨0, 10, 13, 20⟩, ⟨0, 10, 17, 22⟩, ⟨0, 10, 21, 13⟩] ⟨0, 10, 25, 15⟩ [] (by rw [hTab]; rfl) (by
          intro z hz
          rcases List.mem_cons.mp hz with rfl | hz
          · exact Or.inr ⟨by decide, "java/lang/IndexOutOfBoundsException", (hto (.classLink RL9 20 "java/lang/IndexOutOfBoundsException") (by decide +kernel)), hG.2.1 ("java/lang/UnsupportedOperationException", "java/lang/IndexOutOfBoundsException") (by decide +kernel)⟩
          rcases List.mem_cons.mp hz with rfl | hz
          · exact Or.inr ⟨by decide, "java/lang/IllegalStateException", (hto (.classLink RL9 22 "java/lang/IllegalStateException") (by decide +kernel)), hG.2.1 ("java/lang/UnsupportedOperationException", "java/lang/IllegalStateException") (by decide +kernel)⟩
          rcases List.mem_cons.mp hz with rfl | hz
          · exact Or.inr ⟨by decide, "java/lang/IllegalArgumentException", (hto (.classLink RL9 13 "java/lang/IllegalArgumentException") (by decide +kernel)), hG.2.1 ("java/lang/UnsupportedOperationException", "java/lang/IllegalArgumentException") (by decide +kernel)⟩
          cases hz) (by decide) (by decide) (hto (.classLink RL9 15 "java/lang/UnsupportedOperationException") (by decide +kernel)) (va_Nw.use rfl (hG.1 (.castable "java/lang/UnsupportedOperationException" "java/lang/UnsupportedOperationException") (by decide +kernel))) hce hcv hcl ?_
      refine lv_astore (lv' := [(4, .ref q9), (0, .ref h), (1, .int p0), (2, .int p1), (3, .ref o)]) hx hb dL_cut_25 hl (by decide) rfl (fun ls hl => ?_)
      refine lv_iconst (v := 4) hx hb dL_cut_27 (by decide) ?_
      exact gr_i hx hb hr hlocks hK hP hD hS hw (Nat.le_of_ble_eq_true rfl) (Nat.le_of_ble_eq_true rfl) dL_cut_28
  have hP : va_P D vwCl (LWf cI cL cZ h a o (S.1, S1)) H := hP
  have hD : va_D A (LWf cI cL cZ h a o (S.1, S1)) := hD
  refine lv_i2l (v := r2.toInt64) hx hb dL_cut_8 rfl ?_
  obtain ⟨hi3, hw⟩ := hw
  refine g_last (wf := LWf cI cL cZ h a o) (S' := luO (S.1, S1) 0 r2.toInt64) hx hb hK hP hD hS 0 1 (LWc_0 cI cL cZ h a o (S.1, S1)) rfl rfl hi3 dL_cut_9 (fun S4 eS4 H locs hP hD hS => ?_)
  have hw := hw S4 eS4
  refine lv_goto (tgt := 29) hx hb dL_cut_10 (by decide) ?_
  refine lv_iconst (v := 0) hx hb dL_cut_29 (by decide) ?_
  exact gr_i hx hb hr hlocks hK hP hD hS hw (Nat.le_of_ble_eq_true rfl) (Nat.le_of_ble_eq_true rfl) dL_cut_30
def wp_L_weld (post : Int32 → LSt → Prop) (p0 : Int32) (p1 : Int32) (S : LSt) : Prop := (wp_X_weld (fun r2 S1 => (vp_in 0 1 ∧ (∀ S4 : LSt, S4 = luO (S.1, S1) 0 r2.toInt64 → (post 0 S4)))) (fun E S1 => (E = "java/lang/IndexOutOfBoundsException" ∧ (post 1 (S.1, S1))) ∨ (E = "java/lang/IllegalStateException" ∧ (post 2 (S.1, S1))) ∨ (E = "java/lang/UnsupportedOperationException" ∧ (post 3 (S.1, S1)))) p0 p1 S.2)
set_option maxHeartbeats 4000000 in
set_option maxRecDepth 100000 in
theorem c_L_weld (l : Launch) (hl9 : l.stackTraces = false) (D : va_G) (cI cL cZ : ClassId) (h : Nat) (a : Nat → Nat) (o : Nat) (post : Int32 → LSt → Prop) (p0 : Int32) (p1 : Int32) (S : LSt) (hw : wp_L_weld post p0 p1 S) : gMi l yL_weld wsL_weld ({ frames := 8, cells := 1, slots := 6, locals := 130 }) D [(cI, .int), (cL, .long), (cZ, .boolean)] [.ref h, .int p0, .int p1, .ref o] (LWf cI cL cZ h a o S) (LWf cI cL cZ h a o) post := by
  refine g_ofWi (cc := cL_weld) (maxL := 5) (ret := (some .int)) (own := RL9) (by decide) rfl rfl (Nat.le_of_ble_eq_true rfl) ?_
  intro p e s m below meth c A H locs ls C hr hlocks hTab hK hG hA hP hD hS hl
  obtain ⟨hx, hb, hml, hown, hts⟩ := id C
  have hts := fun w (h9 : w ∈ gW) => hts w (List.mem_cons_of_mem _ h9)
  have hto := fun w (h9 : w ∈ gWo) => hts w (gWo_in w h9)
  have hl : lv_has ls 5 [(0, .ref h), (1, .int p0), (2, .int p1), (3, .ref o)] := hl
  dsimp only [wp_L_weld] at hw
  refine lv_aload_n hx hb dL_weld_0 rfl (lv_at hl 3 rfl) ?_
  refine lv_iconst (v := 0) hx hb dL_weld_1 (by decide) ?_
  refine lv_aload_n hx hb dL_weld_2 rfl (lv_at hl 0 rfl) ?_
  refine lv_iload_n hx hb dL_weld_3 rfl (lv_at hl 1 rfl) ?_
  refine lv_iload_n hx hb dL_weld_4 rfl (lv_at hl 2 rfl) ?_
  refine gk_xi (wr := [(o, .inl (cL, 1, .inr (.inl S.1)))]) (wc := XW cI cL cZ h a S.2) (wfc := XW cI cL cZ h a) hP hD hS hA (vx_runV (As := [.int p0, .int p1]) (rest := [.int 0, .ref o]) C (c_X_weld l hl9 D cI cL cZ h a _ _ p0 p1 S.2 hw H.size) (cwV 2 hts (gGV (by decide +kernel) kX_weld) rfl rfl rfl (by decide +kernel) ⟨Nat.le_of_ble_eq_true rfl, Nat.le_of_ble_eq_true rfl⟩) (g_preV (wr := [(o, .inl (cL, 1, .inr (.inl S.1)))]) (wc := XW cI cL cZ h a S.2) (ci := 1) hK hG hA hP hD hS rfl (XWc_0 cI cL cZ h a S.2) rfl) rfl rfl hl.1 rfl (lv_room (Nat.le_of_ble_eq_true rfl)) dL_weld_5 ⟨Nat.le_of_ble_eq_true rfl, Nat.le_of_ble_eq_true rfl⟩) (fun E S1 ce q9 H locs hw hP hD hS hce hcv hcl => ?_) (fun r2 S1 H locs hw hP hD hS => ?_)
  · have hP : va_P D vwCl (LWf cI cL cZ h a o (S.1, S1)) H := hP
    have hD : va_D A (LWf cI cL cZ h a o (S.1, S1)) := hD
    rcases hw with ⟨rfl, hw⟩ | ⟨rfl, hw⟩ | ⟨rfl, hw⟩
    · refine vx_catch (own := RL9) (name := "java/lang/IndexOutOfBoundsException") (E := "java/lang/IndexOutOfBoundsException") hown [] ⟨0, 10, 13, 20⟩ [⟨0, 10, 17, 22⟩, ⟨0, 10, 21, 15⟩] (by rw [hTab]; rfl) (fun z hz => nomatch hz) (by decide) (by decide) (hto (.classLink RL9 20 "java/lang/IndexOutOfBoundsException") (by decide +kernel)) (va_Nw.use rfl (hG.1 (.castable "java/lang/IndexOutOfBoundsException" "java/lang/IndexOutOfBoundsException") (by decide +kernel))) hce hcv hcl ?_
      refine lv_astore (lv' := [(4, .ref q9), (0, .ref h), (1, .int p0), (2, .int p1), (3, .ref o)]) hx hb dL_weld_13 hl (by decide) rfl (fun ls hl => ?_)
      refine lv_iconst (v := 1) hx hb dL_weld_15 (by decide) ?_
      exact gr_i hx hb hr hlocks hK hP hD hS hw (Nat.le_of_ble_eq_true rfl) (Nat.le_of_ble_eq_true rfl) dL_weld_16
    · refine vx_catch (own := RL9) (name := "java/lang/IllegalStateException") (E := "java/lang/IllegalStateException") hown [⟨0, 10, 13, 20⟩] ⟨0, 10, 17, 22⟩ [⟨0, 10, 21, 15⟩] (by rw [hTab]; rfl) (by
          intro z hz
          rcases List.mem_cons.mp hz with rfl | hz
          · exact Or.inr ⟨by decide, "java/lang/IndexOutOfBoundsException", (hto (.classLink RL9 20 "java/lang/IndexOutOfBoundsException") (by decide +kernel)), hG.2.1 ("java/lang/IllegalStateException", "java/lang/IndexOutOfBoundsException") (by decide +kernel)⟩
          cases hz) (by decide) (by decide) (hto (.classLink RL9 22 "java/lang/IllegalStateException") (by decide +kernel)) (va_Nw.use rfl (hG.1 (.castable "java/lang/IllegalStateException" "java/lang/IllegalStateException") (by decide +kernel))) hce hcv hcl ?_
      refine lv_astore (lv' := [(4, .ref q9), (0, .ref h), (1, .int p0), (2, .int p1), (3, .ref o)]) hx hb dL_weld_17 hl (by decide) rfl (fun ls hl => ?_)
      refine lv_iconst (v := 2) hx hb dL_weld_19 (by decide) ?_
      exact gr_i hx hb hr hlocks hK hP hD hS hw (Nat.le_of_ble_eq_true rfl) (Nat.le_of_ble_eq_true rfl) dL_weld_20
    · refine vx_catch (own := RL9) (name := "java/lang/UnsupportedOperationException") (E := "java/lang/UnsupportedOperationException") hown [⟨0, 10, 13, 20⟩, ⟨0, 10, 17, 22⟩] ⟨0, 10, 21, 15⟩ [] (by rw [hTab]; rfl) (by
          intro z hz
          rcases List.mem_cons.mp hz with rfl | hz
          · exact Or.inr ⟨by decide, "java/lang/IndexOutOfBoundsException", (hto (.classLink RL9 20 "java/lang/IndexOutOfBoundsException") (by decide +kernel)), hG.2.1 ("java/lang/UnsupportedOperationException", "java/lang/IndexOutOfBoundsException") (by decide +kernel)⟩
          rcases List.mem_cons.mp hz with rfl | hz
          · exact Or.inr ⟨by decide, "java/lang/IllegalStateException", (hto (.classLink RL9 22 "java/lang/IllegalStateException") (by decide +kernel)), hG.2.1 ("java/lang/UnsupportedOperationException", "java/lang/IllegalStateException") (by decide +kernel)⟩
          cases hz) (by decide) (by decide) (hto (.classLink RL9 15 "java/lang/UnsupportedOperationException") (by decide +kernel)) (va_Nw.use rfl (hG.1 (.castable "java/lang/UnsupportedOperationException" "java/lang/UnsupportedOperationException") (by decide +kernel))) hce hcv hcl ?_
      refine lv_astore (lv' := [(4, .ref q9), (0, .ref h), (1, .int p0), (2, .int p1), (3, .ref o)]) hx hb dL_weld_21 hl (by decide) rfl (fun ls hl => ?_)
      refine lv_iconst (v := 3) hx hb dL_weld_23 (by decide) ?_
      exact gr_i hx hb hr hlocks hK hP hD hS hw (Nat.le_of_ble_eq_true rfl) (Nat.le_of_ble_eq_true rfl) dL_weld_24
  have hP : va_P D vwCl (LWf cI cL cZ h a o (S.1, S1)) H := hP
  have hD : va_D A (LWf cI cL cZ h a o (S.1, S1)) := hD
  refine lv_i2l (v := r2.toInt64) hx hb dL_weld_8 rfl ?_
  obtain ⟨hi3, hw⟩ := hw
  refine g_last (wf := LWf cI cL cZ h a o) (S' := luO (S.1, S1) 0 r2.toInt64) hx hb hK hP hD hS 0 1 (LWc_0 cI cL cZ h a o (S.1, S1)) rfl rfl hi3 dL_weld_9 (fun S4 eS4 H locs hP hD hS => ?_)
  have hw := hw S4 eS4
  refine lv_goto (tgt := 25) hx hb dL_weld_10 (by decide) ?_
  refine lv_iconst (v := 0) hx hb dL_weld_25 (by decide) ?_
  exact gr_i hx hb hr hlocks hK hP hD hS hw (Nat.le_of_ble_eq_true rfl) (Nat.le_of_ble_eq_true rfl) dL_weld_26
def wp_L_roll (post : Int32 → LSt → Prop) (p0 : Int32) (p1 : Int32) (p2 : Int32) (S : LSt) : Prop := (wp_X_roll (fun r2 S1 => (vp_in 0 1 ∧ (∀ S4 : LSt, S4 = luO (S.1, S1) 0 r2.toInt64 → (post 0 S4)))) (fun E S1 => (E = "java/lang/IndexOutOfBoundsException" ∧ (post 1 (S.1, S1))) ∨ (E = "java/lang/IllegalStateException" ∧ (post 2 (S.1, S1))) ∨ (E = "java/lang/IllegalArgumentException" ∧ (post 3 (S.1, S1))) ∨ (E = "java/lang/UnsupportedOperationException" ∧ (post 4 (S.1, S1)))) p0 p1 p2 S.2)
set_option maxHeartbeats 4000000 in
set_option maxRecDepth 100000 in
theorem c_L_roll (l : Launch) (hl9 : l.stackTraces = false) (D : va_G) (cI cL cZ : ClassId) (h : Nat) (a : Nat → Nat) (o : Nat) (post : Int32 → LSt → Prop) (p0 : Int32) (p1 : Int32) (p2 : Int32) (S : LSt) (hw : wp_L_roll post p0 p1 p2 S) : gMi l yL_roll wsL_roll ({ frames := 8, cells := 1, slots := 6, locals := 130 }) D [(cI, .int), (cL, .long), (cZ, .boolean)] [.ref h, .int p0, .int p1, .int p2, .ref o] (LWf cI cL cZ h a o S) (LWf cI cL cZ h a o) post := by
  refine g_ofWi (cc := cL_roll) (maxL := 6) (ret := (some .int)) (own := RL9) (by decide) rfl rfl (Nat.le_of_ble_eq_true rfl) ?_
  intro p e s m below meth c A H locs ls C hr hlocks hTab hK hG hA hP hD hS hl
  obtain ⟨hx, hb, hml, hown, hts⟩ := id C
  have hts := fun w (h9 : w ∈ gW) => hts w (List.mem_cons_of_mem _ h9)
  have hto := fun w (h9 : w ∈ gWo) => hts w (gWo_in w h9)
  have hl : lv_has ls 6 [(0, .ref h), (1, .int p0), (2, .int p1), (3, .int p2), (4, .ref o)] := hl
  dsimp only [wp_L_roll] at hw
  refine lv_aload hx hb dL_roll_0 (lv_at hl 4 rfl) ?_
  refine lv_iconst (v := 0) hx hb dL_roll_2 (by decide) ?_
  refine lv_aload_n hx hb dL_roll_3 rfl (lv_at hl 0 rfl) ?_
  refine lv_iload_n hx hb dL_roll_4 rfl (lv_at hl 1 rfl) ?_
  refine lv_iload_n hx hb dL_roll_5 rfl (lv_at hl 2 rfl) ?_
  refine lv_iload_n hx hb dL_roll_6 rfl (lv_at hl 3 rfl) ?_
  refine gk_xi (wr := [(o, .inl (cL, 1, .inr (.inl S.1)))]) (wc := XW cI cL cZ h a S.2) (wfc := XW cI cL cZ h a) hP hD hS hA (vx_runV (As := [.int p0, .int p1, .int p2]) (rest := [.int 0, .ref o]) C (c_X_roll l hl9 D cI cL cZ h a _ _ p0 p1 p2 S.2 hw H.size) (cwV 3 hts (gGV (by decide +kernel) kX_roll) rfl rfl rfl (by decide +kernel) ⟨Nat.le_of_ble_eq_true rfl, Nat.le_of_ble_eq_true rfl⟩) (g_preV (wr := [(o, .inl (cL, 1, .inr (.inl S.1)))]) (wc := XW cI cL cZ h a S.2) (ci := 1) hK hG hA hP hD hS rfl (XWc_0 cI cL cZ h a S.2) rfl) rfl rfl hl.1 rfl (lv_room (Nat.le_of_ble_eq_true rfl)) dL_roll_7 ⟨Nat.le_of_ble_eq_true rfl, Nat.le_of_ble_eq_true rfl⟩) (fun E S1 ce q9 H locs hw hP hD hS hce hcv hcl => ?_) (fun r2 S1 H locs hw hP hD hS => ?_)
  · have hP : va_P D vwCl (LWf cI cL cZ h a o (S.1, S1)) H := hP
    have hD : va_D A (LWf cI cL cZ h a o (S.1, S1)) := hD
    rcases hw with ⟨rfl, hw⟩ | ⟨rfl, hw⟩ | ⟨rfl, hw⟩ | ⟨rfl, hw⟩
    · refine vx_catch (own := RL9) (name := "java/lang/IndexOutOfBoundsException") (E := "java/lang/IndexOutOfBoundsException") hown [] ⟨0, 12, 15, 20⟩ [⟨0, 12, 19, 22⟩, ⟨0, 12, 23, 13⟩, ⟨0, 12, 27, 15⟩] (by rw [hTab]; rfl) (fun z hz => nomatch hz) (by decide) (by decide) (hto (.classLink RL9 20 "java/lang/IndexOutOfBoundsException") (by decide +kernel)) (va_Nw.use rfl (hG.1 (.castable "java/lang/IndexOutOfBoundsException" "java/lang/IndexOutOfBoundsException") (by decide +kernel))) hce hcv hcl ?_
      refine lv_astore (lv' := [(5, .ref q9), (0, .ref h), (1, .int p0), (2, .int p1), (3, .int p2), (4, .ref o)]) hx hb dL_roll_15 hl (by decide) rfl (fun ls hl => ?_)
      refine lv_iconst (v := 1) hx hb dL_roll_17 (by decide) ?_
      exact gr_i hx hb hr hlocks hK hP hD hS hw (Nat.le_of_ble_eq_true rfl) (Nat.le_of_ble_eq_true rfl) dL_roll_18
    · refine vx_catch (own := RL9) (name := "java/lang/IllegalStateException") (E := "java/lang/IllegalStateException") hown [⟨0, 12, 15, 20⟩] ⟨0, 12, 19, 22⟩ [⟨0, 12, 23, 13⟩, ⟨0, 12, 27, 15⟩] (by rw [hTab]; rfl) (by
          intro z hz
          rcases List.mem_cons.mp hz with rfl | hz
          · exact Or.inr ⟨by decide, "java/lang/IndexOutOfBoundsException", (hto (.classLink RL9 20 "java/lang/IndexOutOfBoundsException") (by decide +kernel)), hG.2.1 ("java/lang/IllegalStateException", "java/lang/IndexOutOfBoundsException") (by decide +kernel)⟩
          cases hz) (by decide) (by decide) (hto (.classLink RL9 22 "java/lang/IllegalStateException") (by decide +kernel)) (va_Nw.use rfl (hG.1 (.castable "java/lang/IllegalStateException" "java/lang/IllegalStateException") (by decide +kernel))) hce hcv hcl ?_
      refine lv_astore (lv' := [(5, .ref q9), (0, .ref h), (1, .int p0), (2, .int p1), (3, .int p2), (4, .ref o)]) hx hb dL_roll_19 hl (by decide) rfl (fun ls hl => ?_)
      refine lv_iconst (v := 2) hx hb dL_roll_21 (by decide) ?_
      exact gr_i hx hb hr hlocks hK hP hD hS hw (Nat.le_of_ble_eq_true rfl) (Nat.le_of_ble_eq_true rfl) dL_roll_22
    · refine vx_catch (own := RL9) (name := "java/lang/IllegalArgumentException") (E := "java/lang/IllegalArgumentException") hown [⟨0, 12, 15, 20⟩, ⟨0, 12, 19, 22⟩] ⟨0, 12, 23, 13⟩ [⟨0, 12, 27, 15⟩] (by rw [hTab]; rfl) (by
          intro z hz
          rcases List.mem_cons.mp hz with rfl | hz
          · exact Or.inr ⟨by decide, "java/lang/IndexOutOfBoundsException", (hto (.classLink RL9 20 "java/lang/IndexOutOfBoundsException") (by decide +kernel)), hG.2.1 ("java/lang/IllegalArgumentException", "java/lang/IndexOutOfBoundsException") (by decide +kernel)⟩
          rcases List.mem_cons.mp hz with rfl | hz
          · exact Or.inr ⟨by decide, "java/lang/IllegalStateException", (hto (.classLink RL9 22 "java/lang/IllegalStateException") (by decide +kernel)), hG.2.1 ("java/lang/IllegalArgumentException", "java/lang/IllegalStateException") (by decide +kernel)⟩
          cases hz) (by decide) (by decide) (hto (.classLink RL9 13 "java/lang/IllegalArgumentException") (by decide +kernel)) (va_Nw.use rfl (hG.1 (.castable "java/lang/IllegalArgumentException" "java/lang/IllegalArgumentException") (by decide +kernel))) hce hcv hcl ?_
      refine lv_astore (lv' := [(5, .ref q9), (0, .ref h), (1, .int p0), (2, .int p1), (3, .int p2), (4, .ref o)]) hx hb dL_roll_23 hl (by decide) rfl (fun ls hl => ?_)
      refine lv_iconst (v := 3) hx hb dL_roll_25 (by decide) ?_
      exact gr_i hx hb hr hlocks hK hP hD hS hw (Nat.le_of_ble_eq_true rfl) (Nat.le_of_ble_eq_true rfl) dL_roll_26
    · refine vx_catch (own := RL9) (name := "java/lang/UnsupportedOperationException") (E := "java/lang/UnsupportedOperationException") hown [⟨0, 12, 15, 20⟩, ⟨0, 12, 19, 22⟩, ⟨0, 12, 23, 13⟩] ⟨0, 12, 27, 15⟩ [] (by rw [hTab]; rfl) (by
          intro z hz
          rcases List.mem_cons.mp hz with rfl | hz
          · exact Or.inr ⟨by decide, "java/lang/IndexOutOfBoundsException", (hto (.classLink RL9 20 "java/lang/IndexOutOfBoundsException") (by decide +kernel)), hG.2.1 ("java/lang/UnsupportedOperationException", "java/lang/IndexOutOfBoundsException") (by decide +kernel)⟩
          rcases List.mem_cons.mp hz with rfl | hz
          · exact Or.inr ⟨by decide, "java/lang/IllegalStateException", (hto (.classLink RL9 22 "java/lang/IllegalStateException") (by decide +kernel)), hG.2.1 ("java/lang/UnsupportedOperationException", "java/lang/IllegalStateException") (by decide +kernel)⟩
          rcases List.mem_cons.mp hz with rfl | hz
          · exact Or.inr ⟨by decide, "java/lang/IllegalArgumentException", (hto (.classLink RL9 13 "java/lang/IllegalArgumentException") (by decide +kernel)), hG.2.1 ("java/lang/UnsupportedOperationException", "java/lang/IllegalArgumentException") (by decide +kernel)⟩
          cases hz) (by decide) (by decide) (hto (.classLink RL9 15 "java/lang/UnsupportedOperationException") (by decide +kernel)) (va_Nw.use rfl (hG.1 (.castable "java/lang/UnsupportedOperationException" "java/lang/UnsupportedOperationException") (by decide +kernel))) hce hcv hcl ?_
      refine lv_astore (lv' := [(5, .ref q9), (0, .ref h), (1, .int p0), (2, .int p1), (3, .int p2), (4, .ref o)]) hx hb dL_roll_27 hl (by decide) rfl (fun ls hl => ?_)
      refine lv_iconst (v := 4) hx hb dL_roll_29 (by decide) ?_
      exact gr_i hx hb hr hlocks hK hP hD hS hw (Nat.le_of_ble_eq_true rfl) (Nat.le_of_ble_eq_true rfl) dL_roll_30
  have hP : va_P D vwCl (LWf cI cL cZ h a o (S.1, S1)) H := hP
  have hD : va_D A (LWf cI cL cZ h a o (S.1, S1)) := hD
  refine lv_i2l (v := r2.toInt64) hx hb dL_roll_10 rfl ?_
  obtain ⟨hi3, hw⟩ := hw
  refine g_last (wf := LWf cI cL cZ h a o) (S' := luO (S.1, S1) 0 r2.toInt64) hx hb hK hP hD hS 0 1 (LWc_0 cI cL cZ h a o (S.1, S1)) rfl rfl hi3 dL_roll_11 (fun S4 eS4 H locs hP hD hS => ?_)
  have hw := hw S4 eS4
  refine lv_goto (tgt := 31) hx hb dL_roll_12 (by decide) ?_
  refine lv_iconst (v := 0) hx hb dL_roll_31 (by decide) ?_
  exact gr_i hx hb hr hlocks hK hP hD hS hw (Nat.le_of_ble_eq_true rfl) (Nat.le_of_ble_eq_true rfl) dL_roll_32
def wp_L_slit (post : Int32 → LSt → Prop) (p0 : Int32) (p1 : Int32) (S : LSt) : Prop := (wp_X_slit (fun r2 S1 => (vp_in 0 1 ∧ (∀ S4 : LSt, S4 = luO (S.1, S1) 0 r2.toInt64 → (post 0 S4)))) (fun E S1 => (E = "java/lang/IndexOutOfBoundsException" ∧ (post 1 (S.1, S1))) ∨ (E = "java/lang/IllegalStateException" ∧ (post 2 (S.1, S1))) ∨ (E = "java/lang/IllegalArgumentException" ∧ (post 3 (S.1, S1))) ∨ (E = "java/lang/UnsupportedOperationException" ∧ (post 4 (S.1, S1)))) p0 p1 S.2)
set_option maxHeartbeats 4000000 in
set_option maxRecDepth 100000 in
theorem c_L_slit (l : Launch) (hl9 : l.stackTraces = false) (D : va_G) (cI cL cZ : ClassId) (h : Nat) (a : Nat → Nat) (o : Nat) (post : Int32 → LSt → Prop) (p0 : Int32) (p1 : Int32) (S : LSt) (hw : wp_L_slit post p0 p1 S) : gMi l yL_slit wsL_slit ({ frames := 8, cells := 1, slots := 6, locals := 130 }) D [(cI, .int), (cL, .long), (cZ, .boolean)] [.ref h, .int p0, .int p1, .ref o] (LWf cI cL cZ h a o S) (LWf cI cL cZ h a o) post := by
  refine g_ofWi (cc := cL_slit) (maxL := 5) (ret := (some .int)) (own := RL9) (by decide) rfl rfl (Nat.le_of_ble_eq_true rfl) ?_
  intro p e s m below meth c A H locs ls C hr hlocks hTab hK hG hA hP hD hS hl
  obtain ⟨hx, hb, hml, hown, hts⟩ := id C
  have hts := fun w (h9 : w ∈ gW) => hts w (List.mem_cons_of_mem _ h9)
  have hto := fun w (h9 : w ∈ gWo) => hts w (gWo_in w h9)
  have hl : lv_has ls 5 [(0, .ref h), (1, .int p0), (2, .int p1), (3, .ref o)] := hl
  dsimp only [wp_L_slit] at hw
  refine lv_aload_n hx hb dL_slit_0 rfl (lv_at hl 3 rfl) ?_
  refine lv_iconst (v := 0) hx hb dL_slit_1 (by decide) ?_
  refine lv_aload_n hx hb dL_slit_2 rfl (lv_at hl 0 rfl) ?_
  refine lv_iload_n hx hb dL_slit_3 rfl (lv_at hl 1 rfl) ?_
  refine lv_iload_n hx hb dL_slit_4 rfl (lv_at hl 2 rfl) ?_
  refine gk_xi (wr := [(o, .inl (cL, 1, .inr (.inl S.1)))]) (wc := XW cI cL cZ h a S.2) (wfc := XW cI cL cZ h a) hP hD hS hA (vx_runV (As := [.int p0, .int p1]) (rest := [.int 0, .ref o]) C (c_X_slit l hl9 D cI cL cZ h a _ _ p0 p1 S.2 hw H.size) (cwV 2 hts (gGV (by decide +kernel) kX_slit) rfl rfl rfl (by decide +kernel) ⟨Nat.le_of_ble_eq_true rfl, Nat.le_of_ble_eq_true rfl⟩) (g_preV (wr := [(o, .inl (cL, 1, .inr (.inl S.1)))]) (wc := XW cI cL cZ h a S.2) (ci := 1) hK hG hA hP hD hS rfl (XWc_0 cI cL cZ h a S.2) rfl) rfl rfl hl.1 rfl (lv_room (Nat.le_of_ble_eq_true rfl)) dL_slit_5 ⟨Nat.le_of_ble_eq_true rfl, Nat.le_of_ble_eq_true rfl⟩) (fun E S1 ce q9 H locs hw hP hD hS hce hcv hcl => ?_) (fun r2 S1 H locs hw hP hD hS => ?_)
  · have hP : va_P D vwCl (LWf cI cL cZ h a o (S.1, S1)) H := hP
    have hD : va_D A (LWf cI cL cZ h a o (S.1, S1)) := hD
    rcases hw with ⟨rfl, hw⟩ | ⟨rfl, hw⟩ | ⟨rfl, hw⟩ | ⟨rfl, hw⟩
    · refine vx_catch (own := RL9) (name := "java/lang/IndexOutOfBoundsException") (E := "java/lang/IndexOutOfBoundsException") hown [] ⟨0, 10, 13, 20⟩ [⟨0, 10, 17, 22⟩, ⟨0, 10, 21, 13⟩, ⟨0, 10, 25, 15⟩] (by rw [hTab]; rfl) (fun z hz => nomatch hz) (by decide) (by decide) (hto (.classLink RL9 20 "java/lang/IndexOutOfBoundsException") (by decide +kernel)) (va_Nw.use rfl (hG.1 (.castable "java/lang/IndexOutOfBoundsException" "java/lang/IndexOutOfBoundsException") (by decide +kernel))) hce hcv hcl ?_
      refine lv_astore (lv' := [(4, .ref q9), (0, .ref h), (1, .int p0), (2, .int p1), (3, .ref o)]) hx hb dL_slit_13 hl (by decide) rfl (fun ls hl => ?_)
      refine lv_iconst (v := 1) hx hb dL_slit_15 (by decide) ?_
      exact gr_i hx hb hr hlocks hK hP hD hS hw (Nat.le_of_ble_eq_true rfl) (Nat.le_of_ble_eq_true rfl) dL_slit_16
    · refine vx_catch (own := RL9) (name := "java/lang/IllegalStateException") (E := "java/lang/IllegalStateException") hown [⟨0, 10, 13, 20⟩] ⟨0, 10, 17, 22⟩ [⟨0, 10, 21, 13⟩, ⟨0, 10, 25, 15⟩] (by rw [hTab]; rfl) (by
          intro z hz
          rcases List.mem_cons.mp hz with rfl | hz
          · exact Or.inr ⟨by decide, "java/lang/IndexOutOfBoundsException", (hto (.classLink RL9 20 "java/lang/IndexOutOfBoundsException") (by decide +kernel)), hG.2.1 ("java/lang/IllegalStateException", "java/lang/IndexOutOfBoundsException") (by decide +kernel)⟩
          cases hz) (by decide) (by decide) (hto (.classLink RL9 22 "java/lang/IllegalStateException") (by decide +kernel)) (va_Nw.use rfl (hG.1 (.castable "java/lang/IllegalStateException" "java/lang/IllegalStateException") (by decide +kernel))) hce hcv hcl ?_
      refine lv_astore (lv' := [(4, .ref q9), (0, .ref h), (1, .int p0), (2, .int p1), (3, .ref o)]) hx hb dL_slit_17 hl (by decide) rfl (fun ls hl => ?_)
      refine lv_iconst (v := 2) hx hb dL_slit_19 (by decide) ?_
      exact gr_i hx hb hr hlocks hK hP hD hS hw (Nat.le_of_ble_eq_true rfl) (Nat.le_of_ble_eq_true rfl) dL_slit_20
    · refine vx_catch (own := RL9) (name := "java/lang/IllegalArgumentException") (E := "java/lang/IllegalArgumentException") hown [⟨0, 10, 13, 20⟩, ⟨0, 10, 17, 22⟩] ⟨0, 10, 21, 13⟩ [⟨0, 10, 25, 15⟩] (by rw [hTab]; rfl) (by
          intro z hz
          rcases List.mem_cons.mp hz with rfl | hz
          · exact Or.inr ⟨by decide, "java/lang/IndexOutOfBoundsException", (hto (.classLink RL9 20 "java/lang/IndexOutOfBoundsException") (by decide +kernel)), hG.2.1 ("java/lang/IllegalArgumentException", "java/lang/IndexOutOfBoundsException") (by decide +kernel)⟩
          rcases List.mem_cons.mp hz with rfl | hz
          · exact Or.inr ⟨by decide, "java/lang/IllegalStateException", (hto (.classLink RL9 22 "java/lang/IllegalStateException") (by decide +kernel)), hG.2.1 ("java/lang/IllegalArgumentException", "java/lang/IllegalStateException") (by decide +kernel)⟩
          cases hz) (by decide) (by decide) (hto (.classLink RL9 13 "java/lang/IllegalArgumentException") (by decide +kernel)) (va_Nw.use rfl (hG.1 (.castable "java/lang/IllegalArgumentException" "java/lang/IllegalArgumentException") (by decide +kernel))) hce hcv hcl ?_
      refine lv_astore (lv' := [(4, .ref q9), (0, .ref h), (1, .int p0), (2, .int p1), (3, .ref o)]) hx hb dL_slit_21 hl (by decide) rfl (fun ls hl => ?_)
      refine lv_iconst (v := 3) hx hb dL_slit_23 (by decide) ?_
      exact gr_i hx hb hr hlocks hK hP hD hS hw (Nat.le_of_ble_eq_true rfl) (Nat.le_of_ble_eq_true rfl) dL_slit_24
    · refine vx_catch (own := RL9) (name := "java/lang/UnsupportedOperationException") (E := "java/lang/UnsupportedOperationException") hown [⟨0, 10, 13, 20⟩, ⟨0, 10, 17, 22⟩, ⟨0, 10, 21, 13⟩] ⟨0, 10, 25, 15⟩ [] (by rw [hTab]; rfl) (by
          intro z hz
          rcases List.mem_cons.mp hz with rfl | hz
          · exact Or.inr ⟨by decide, "java/lang/IndexOutOfBoundsException", (hto (.classLink RL9 20 "java/lang/IndexOutOfBoundsException") (by decide +kernel)), hG.2.1 ("java/lang/UnsupportedOperationException", "java/lang/IndexOutOfBoundsException") (by decide +kernel)⟩
          rcases List.mem_cons.mp hz with rfl | hz
          · exact Or.inr ⟨by decide, "java/lang/IllegalStateException", (hto (.classLink RL9 22 "java/lang/IllegalStateException") (by decide +kernel)), hG.2.1 ("java/lang/UnsupportedOperationException", "java/lang/IllegalStateException") (by decide +kernel)⟩
          rcases List.mem_cons.mp hz with rfl | hz
          · exact Or.inr ⟨by decide, "java/lang/IllegalArgumentException", (hto (.classLink RL9 13 "java/lang/IllegalArgumentException") (by decide +kernel)), hG.2.1 ("java/lang/UnsupportedOperationException", "java/lang/IllegalArgumentException") (by decide +kernel)⟩
          cases hz) (by decide) (by decide) (hto (.classLink RL9 15 "java/lang/UnsupportedOperationException") (by decide +kernel)) (va_Nw.use rfl (hG.1 (.castable "java/lang/UnsupportedOperationException" "java/lang/UnsupportedOperationException") (by decide +kernel))) hce hcv hcl ?_
      refine lv_astore (lv' := [(4, .ref q9), (0, .ref h), (1, .int p0), (2, .int p1), (3, .ref o)]) hx hb dL_slit_25 hl (by decide) rfl (fun ls hl => ?_)
      refine lv_iconst (v := 4) hx hb dL_slit_27 (by decide) ?_
      exact gr_i hx hb hr hlocks hK hP hD hS hw (Nat.le_of_ble_eq_true rfl) (Nat.le_of_ble_eq_true rfl) dL_slit_28
  have hP : va_P D vwCl (LWf cI cL cZ h a o (S.1, S1)) H := hP
  have hD : va_D A (LWf cI cL cZ h a o (S.1, S1)) := hD
  refine lv_i2l (v := r2.toInt64) hx hb dL_slit_8 rfl ?_
  obtain ⟨hi3, hw⟩ := hw
  refine g_last (wf := LWf cI cL cZ h a o) (S' := luO (S.1, S1) 0 r2.toInt64) hx hb hK hP hD hS 0 1 (LWc_0 cI cL cZ h a o (S.1, S1)) rfl rfl hi3 dL_slit_9 (fun S4 eS4 H locs hP hD hS => ?_)
  have hw := hw S4 eS4
  refine lv_goto (tgt := 29) hx hb dL_slit_10 (by decide) ?_
  refine lv_iconst (v := 0) hx hb dL_slit_29 (by decide) ?_
  exact gr_i hx hb hr hlocks hK hP hD hS hw (Nat.le_of_ble_eq_true rfl) (Nat.le_of_ble_eq_true rfl) dL_slit_30
def wp_L_hold (post : Int32 → LSt → Prop) (p0 : Int32) (p1 : Int32) (S : LSt) : Prop := (wp_X_hold (fun  S1 => (post 0 (S.1, S1))) (fun E S1 => (E = "java/lang/IndexOutOfBoundsException" ∧ (post 1 (S.1, S1))) ∨ (E = "java/lang/IllegalStateException" ∧ (post 2 (S.1, S1)))) p0 p1 S.2)
set_option maxHeartbeats 4000000 in
set_option maxRecDepth 100000 in
theorem c_L_hold (l : Launch) (hl9 : l.stackTraces = false) (D : va_G) (cI cL cZ : ClassId) (h : Nat) (a : Nat → Nat) (o : Nat) (post : Int32 → LSt → Prop) (p0 : Int32) (p1 : Int32) (S : LSt) (hw : wp_L_hold post p0 p1 S) : gMi l yL_hold wsL_hold ({ frames := 8, cells := 1, slots := 6, locals := 125 }) D [(cI, .int), (cL, .long), (cZ, .boolean)] [.ref h, .int p0, .int p1] (LWf cI cL cZ h a o S) (LWf cI cL cZ h a o) post := by
  refine g_ofWi (cc := cL_hold) (maxL := 4) (ret := (some .int)) (own := RL9) (by decide) rfl rfl (Nat.le_of_ble_eq_true rfl) ?_
  intro p e s m below meth c A H locs ls C hr hlocks hTab hK hG hA hP hD hS hl
  obtain ⟨hx, hb, hml, hown, hts⟩ := id C
  have hts := fun w (h9 : w ∈ gW) => hts w (List.mem_cons_of_mem _ h9)
  have hto := fun w (h9 : w ∈ gWo) => hts w (gWo_in w h9)
  have hl : lv_has ls 4 [(0, .ref h), (1, .int p0), (2, .int p1)] := hl
  dsimp only [wp_L_hold] at hw
  refine lv_aload_n hx hb dL_hold_0 rfl (lv_at hl 0 rfl) ?_
  refine lv_iload_n hx hb dL_hold_1 rfl (lv_at hl 1 rfl) ?_
  refine lv_iload_n hx hb dL_hold_2 rfl (lv_at hl 2 rfl) ?_
  refine gk_xv (wr := [(o, .inl (cL, 1, .inr (.inl S.1)))]) (wc := XW cI cL cZ h a S.2) (wfc := XW cI cL cZ h a) hP hD hS hA (vx_runV (As := [.int p0, .int p1]) (rest := []) C (c_X_hold l hl9 D cI cL cZ h a _ _ p0 p1 S.2 hw H.size) (cwV 2 hts (gGV (by decide +kernel) kX_hold) rfl rfl rfl (by decide +kernel) ⟨Nat.le_of_ble_eq_true rfl, Nat.le_of_ble_eq_true rfl⟩) (g_preV (wr := [(o, .inl (cL, 1, .inr (.inl S.1)))]) (wc := XW cI cL cZ h a S.2) (ci := 1) hK hG hA hP hD hS rfl (XWc_0 cI cL cZ h a S.2) rfl) rfl rfl hl.1 rfl (lv_room (Nat.le_of_ble_eq_true rfl)) dL_hold_3 ⟨Nat.le_of_ble_eq_true rfl, Nat.le_of_ble_eq_true rfl⟩) (fun E S1 ce q9 H locs hw hP hD hS hce hcv hcl => ?_) (fun  S1 H locs hw hP hD hS => ?_)
  · have hP : va_P D vwCl (LWf cI cL cZ h a o (S.1, S1)) H := hP
    have hD : va_D A (LWf cI cL cZ h a o (S.1, S1)) := hD
    rcases hw with ⟨rfl, hw⟩ | ⟨rfl, hw⟩
    · refine vx_catch (own := RL9) (name := "java/lang/IndexOutOfBoundsException") (E := "java/lang/IndexOutOfBoundsException") hown [] ⟨0, 6, 9, 20⟩ [⟨0, 6, 12, 22⟩] (by rw [hTab]; rfl) (fun z hz => nomatch hz) (by decide) (by decide) (hto (.classLink RL9 20 "java/lang/IndexOutOfBoundsException") (by decide +kernel)) (va_Nw.use rfl (hG.1 (.castable "java/lang/IndexOutOfBoundsException" "java/lang/IndexOutOfBoundsException") (by decide +kernel))) hce hcv hcl ?_
      refine lv_astore_n (lv' := [(3, .ref q9), (0, .ref h), (1, .int p0), (2, .int p1)]) hx hb dL_hold_9 rfl hl (by decide) rfl (fun ls hl => ?_)
      refine lv_iconst (v := 1) hx hb dL_hold_10 (by decide) ?_
      exact gr_i hx hb hr hlocks hK hP hD hS hw (Nat.le_of_ble_eq_true rfl) (Nat.le_of_ble_eq_true rfl) dL_hold_11
    · refine vx_catch (own := RL9) (name := "java/lang/IllegalStateException") (E := "java/lang/IllegalStateException") hown [⟨0, 6, 9, 20⟩] ⟨0, 6, 12, 22⟩ [] (by rw [hTab]; rfl) (by
          intro z hz
          rcases List.mem_cons.mp hz with rfl | hz
          · exact Or.inr ⟨by decide, "java/lang/IndexOutOfBoundsException", (hto (.classLink RL9 20 "java/lang/IndexOutOfBoundsException") (by decide +kernel)), hG.2.1 ("java/lang/IllegalStateException", "java/lang/IndexOutOfBoundsException") (by decide +kernel)⟩
          cases hz) (by decide) (by decide) (hto (.classLink RL9 22 "java/lang/IllegalStateException") (by decide +kernel)) (va_Nw.use rfl (hG.1 (.castable "java/lang/IllegalStateException" "java/lang/IllegalStateException") (by decide +kernel))) hce hcv hcl ?_
      refine lv_astore_n (lv' := [(3, .ref q9), (0, .ref h), (1, .int p0), (2, .int p1)]) hx hb dL_hold_12 rfl hl (by decide) rfl (fun ls hl => ?_)
      refine lv_iconst (v := 2) hx hb dL_hold_13 (by decide) ?_
      exact gr_i hx hb hr hlocks hK hP hD hS hw (Nat.le_of_ble_eq_true rfl) (Nat.le_of_ble_eq_true rfl) dL_hold_14
  have hP : va_P D vwCl (LWf cI cL cZ h a o (S.1, S1)) H := hP
  have hD : va_D A (LWf cI cL cZ h a o (S.1, S1)) := hD
  refine lv_goto (tgt := 15) hx hb dL_hold_6 (by decide) ?_
  refine lv_iconst (v := 0) hx hb dL_hold_15 (by decide) ?_
  exact gr_i hx hb hr hlocks hK hP hD hS hw (Nat.le_of_ble_eq_true rfl) (Nat.le_of_ble_eq_true rfl) dL_hold_16
def wp_L_scrap (post : Int32 → LSt → Prop) (p0 : Int32) (S : LSt) : Prop := (wp_X_scrap (fun r2 S1 => (vp_in 0 1 ∧ (∀ S4 : LSt, S4 = luO (S.1, S1) 0 r2.toInt64 → (post 0 S4)))) (fun E S1 => (E = "java/lang/IndexOutOfBoundsException" ∧ (post 1 (S.1, S1))) ∨ (E = "java/lang/IllegalStateException" ∧ (post 2 (S.1, S1)))) p0 S.2)
set_option maxHeartbeats 4000000 in
set_option maxRecDepth 100000 in
theorem c_L_scrap (l : Launch) (hl9 : l.stackTraces = false) (D : va_G) (cI cL cZ : ClassId) (h : Nat) (a : Nat → Nat) (o : Nat) (post : Int32 → LSt → Prop) (p0 : Int32) (S : LSt) (hw : wp_L_scrap post p0 S) : gMi l yL_scrap wsL_scrap ({ frames := 8, cells := 1, slots := 6, locals := 124 }) D [(cI, .int), (cL, .long), (cZ, .boolean)] [.ref h, .int p0, .ref o] (LWf cI cL cZ h a o S) (LWf cI cL cZ h a o) post := by
  refine g_ofWi (cc := cL_scrap) (maxL := 4) (ret := (some .int)) (own := RL9) (by decide) rfl rfl (Nat.le_of_ble_eq_true rfl) ?_
  intro p e s m below meth c A H locs ls C hr hlocks hTab hK hG hA hP hD hS hl
  obtain ⟨hx, hb, hml, hown, hts⟩ := id C
  have hts := fun w (h9 : w ∈ gW) => hts w (List.mem_cons_of_mem _ h9)
  have hto := fun w (h9 : w ∈ gWo) => hts w (gWo_in w h9)
  have hl : lv_has ls 4 [(0, .ref h), (1, .int p0), (2, .ref o)] := hl
  dsimp only [wp_L_scrap] at hw
  refine lv_aload_n hx hb dL_scrap_0 rfl (lv_at hl 2 rfl) ?_
  refine lv_iconst (v := 0) hx hb dL_scrap_1 (by decide) ?_
  refine lv_aload_n hx hb dL_scrap_2 rfl (lv_at hl 0 rfl) ?_
  refine lv_iload_n hx hb dL_scrap_3 rfl (lv_at hl 1 rfl) ?_
  refine gk_xi (wr := [(o, .inl (cL, 1, .inr (.inl S.1)))]) (wc := XW cI cL cZ h a S.2) (wfc := XW cI cL cZ h a) hP hD hS hA (vx_runV (As := [.int p0]) (rest := [.int 0, .ref o]) C (c_X_scrap l hl9 D cI cL cZ h a _ _ p0 S.2 hw H.size) (cwV 1 hts (gGV (by decide +kernel) kX_scrap) rfl rfl rfl (by decide +kernel) ⟨Nat.le_of_ble_eq_true rfl, Nat.le_of_ble_eq_true rfl⟩) (g_preV (wr := [(o, .inl (cL, 1, .inr (.inl S.1)))]) (wc := XW cI cL cZ h a S.2) (ci := 1) hK hG hA hP hD hS rfl (XWc_0 cI cL cZ h a S.2) rfl) rfl rfl hl.1 rfl (lv_room (Nat.le_of_ble_eq_true rfl)) dL_scrap_4 ⟨Nat.le_of_ble_eq_true rfl, Nat.le_of_ble_eq_true rfl⟩) (fun E S1 ce q9 H locs hw hP hD hS hce hcv hcl => ?_) (fun r2 S1 H locs hw hP hD hS => ?_)
  · have hP : va_P D vwCl (LWf cI cL cZ h a o (S.1, S1)) H := hP
    have hD : va_D A (LWf cI cL cZ h a o (S.1, S1)) := hD
    rcases hw with ⟨rfl, hw⟩ | ⟨rfl, hw⟩
    · refine vx_catch (own := RL9) (name := "java/lang/IndexOutOfBoundsException") (E := "java/lang/IndexOutOfBoundsException") hown [] ⟨0, 9, 12, 20⟩ [⟨0, 9, 15, 22⟩] (by rw [hTab]; rfl) (fun z hz => nomatch hz) (by decide) (by decide) (hto (.classLink RL9 20 "java/lang/IndexOutOfBoundsException") (by decide +kernel)) (va_Nw.use rfl (hG.1 (.castable "java/lang/IndexOutOfBoundsException" "java/lang/IndexOutOfBoundsException") (by decide +kernel))) hce hcv hcl ?_
      refine lv_astore_n (lv' := [(3, .ref q9), (0, .ref h), (1, .int p0), (2, .ref o)]) hx hb dL_scrap_12 rfl hl (by decide) rfl (fun ls hl => ?_)
      refine lv_iconst (v := 1) hx hb dL_scrap_13 (by decide) ?_
      exact gr_i hx hb hr hlocks hK hP hD hS hw (Nat.le_of_ble_eq_true rfl) (Nat.le_of_ble_eq_true rfl) dL_scrap_14
    · refine vx_catch (own := RL9) (name := "java/lang/IllegalStateException") (E := "java/lang/IllegalStateException") hown [⟨0, 9, 12, 20⟩] ⟨0, 9, 15, 22⟩ [] (by rw [hTab]; rfl) (by
          intro z hz
          rcases List.mem_cons.mp hz with rfl | hz
          · exact Or.inr ⟨by decide, "java/lang/IndexOutOfBoundsException", (hto (.classLink RL9 20 "java/lang/IndexOutOfBoundsException") (by decide +kernel)), hG.2.1 ("java/lang/IllegalStateException", "java/lang/IndexOutOfBoundsException") (by decide +kernel)⟩
          cases hz) (by decide) (by decide) (hto (.classLink RL9 22 "java/lang/IllegalStateException") (by decide +kernel)) (va_Nw.use rfl (hG.1 (.castable "java/lang/IllegalStateException" "java/lang/IllegalStateException") (by decide +kernel))) hce hcv hcl ?_
      refine lv_astore_n (lv' := [(3, .ref q9), (0, .ref h), (1, .int p0), (2, .ref o)]) hx hb dL_scrap_15 rfl hl (by decide) rfl (fun ls hl => ?_)
      refine lv_iconst (v := 2) hx hb dL_scrap_16 (by decide) ?_
      exact gr_i hx hb hr hlocks hK hP hD hS hw (Nat.le_of_ble_eq_true rfl) (Nat.le_of_ble_eq_true rfl) dL_scrap_17
  have hP : va_P D vwCl (LWf cI cL cZ h a o (S.1, S1)) H := hP
  have hD : va_D A (LWf cI cL cZ h a o (S.1, S1)) := hD
  refine lv_i2l (v := r2.toInt64) hx hb dL_scrap_7 rfl ?_
  obtain ⟨hi3, hw⟩ := hw
  refine g_last (wf := LWf cI cL cZ h a o) (S' := luO (S.1, S1) 0 r2.toInt64) hx hb hK hP hD hS 0 1 (LWc_0 cI cL cZ h a o (S.1, S1)) rfl rfl hi3 dL_scrap_8 (fun S4 eS4 H locs hP hD hS => ?_)
  have hw := hw S4 eS4
  refine lv_goto (tgt := 18) hx hb dL_scrap_9 (by decide) ?_
  refine lv_iconst (v := 0) hx hb dL_scrap_18 (by decide) ?_
  exact gr_i hx hb hr hlocks hK hP hD hS hw (Nat.le_of_ble_eq_true rfl) (Nat.le_of_ble_eq_true rfl) dL_scrap_19
def wp_L_back (post : Int32 → LSt → Prop) (p0 : Int32) (p1 : Int32) (S : LSt) : Prop := (wp_X_back (fun r2 S1 => (vp_in 0 1 ∧ (∀ S4 : LSt, S4 = luO (S.1, S1) 0 r2.toInt64 → (post 0 S4)))) (fun E S1 => (E = "java/lang/IllegalArgumentException" ∧ (post 1 (S.1, S1))) ∨ (E = "java/lang/UnsupportedOperationException" ∧ (post 2 (S.1, S1)))) p0 p1 S.2)
set_option maxHeartbeats 4000000 in
set_option maxRecDepth 100000 in
theorem c_L_back (l : Launch) (hl9 : l.stackTraces = false) (D : va_G) (cI cL cZ : ClassId) (h : Nat) (a : Nat → Nat) (o : Nat) (post : Int32 → LSt → Prop) (p0 : Int32) (p1 : Int32) (S : LSt) (hw : wp_L_back post p0 p1 S) : gMi l yL_back wsL_back ({ frames := 8, cells := 1, slots := 6, locals := 127 }) D [(cI, .int), (cL, .long), (cZ, .boolean)] [.ref h, .int p0, .int p1, .ref o] (LWf cI cL cZ h a o S) (LWf cI cL cZ h a o) post := by
  refine g_ofWi (cc := cL_back) (maxL := 5) (ret := (some .int)) (own := RL9) (by decide) rfl rfl (Nat.le_of_ble_eq_true rfl) ?_
  intro p e s m below meth c A H locs ls C hr hlocks hTab hK hG hA hP hD hS hl
  obtain ⟨hx, hb, hml, hown, hts⟩ := id C
  have hts := fun w (h9 : w ∈ gW) => hts w (List.mem_cons_of_mem _ h9)
  have hto := fun w (h9 : w ∈ gWo) => hts w (gWo_in w h9)
  have hl : lv_has ls 5 [(0, .ref h), (1, .int p0), (2, .int p1), (3, .ref o)] := hl
  dsimp only [wp_L_back] at hw
  refine lv_aload_n hx hb dL_back_0 rfl (lv_at hl 3 rfl) ?_
  refine lv_iconst (v := 0) hx hb dL_back_1 (by decide) ?_
  refine lv_aload_n hx hb dL_back_2 rfl (lv_at hl 0 rfl) ?_
  refine lv_iload_n hx hb dL_back_3 rfl (lv_at hl 1 rfl) ?_
  refine lv_iload_n hx hb dL_back_4 rfl (lv_at hl 2 rfl) ?_
  refine gk_xi (wr := [(o, .inl (cL, 1, .inr (.inl S.1)))]) (wc := XW cI cL cZ h a S.2) (wfc := XW cI cL cZ h a) hP hD hS hA (vx_runV (As := [.int p0, .int p1]) (rest := [.int 0, .ref o]) C (c_X_back l hl9 D cI cL cZ h a _ _ p0 p1 S.2 hw H.size) (cwV 2 hts (gGV (by decide +kernel) kX_back) rfl rfl rfl (by decide +kernel) ⟨Nat.le_of_ble_eq_true rfl, Nat.le_of_ble_eq_true rfl⟩) (g_preV (wr := [(o, .inl (cL, 1, .inr (.inl S.1)))]) (wc := XW cI cL cZ h a S.2) (ci := 1) hK hG hA hP hD hS rfl (XWc_0 cI cL cZ h a S.2) rfl) rfl rfl hl.1 rfl (lv_room (Nat.le_of_ble_eq_true rfl)) dL_back_5 ⟨Nat.le_of_ble_eq_true rfl, Nat.le_of_ble_eq_true rfl⟩) (fun E S1 ce q9 H locs hw hP hD hS hce hcv hcl => ?_) (fun r2 S1 H locs hw hP hD hS => ?_)
  · have hP : va_P D vwCl (LWf cI cL cZ h a o (S.1, S1)) H := hP
    have hD : va_D A (LWf cI cL cZ h a o (S.1, S1)) := hD
    rcases hw with ⟨rfl, hw⟩ | ⟨rfl, hw⟩
    · refine vx_catch (own := RL9) (name := "java/lang/IllegalArgumentException") (E := "java/lang/IllegalArgumentException") hown [] ⟨0, 10, 13, 13⟩ [⟨0, 10, 17, 15⟩] (by rw [hTab]; rfl) (fun z hz => nomatch hz) (by decide) (by decide) (hto (.classLink RL9 13 "java/lang/IllegalArgumentException") (by decide +kernel)) (va_Nw.use rfl (hG.1 (.castable "java/lang/IllegalArgumentException" "java/lang/IllegalArgumentException") (by decide +kernel))) hce hcv hcl ?_
      refine lv_astore (lv' := [(4, .ref q9), (0, .ref h), (1, .int p0), (2, .int p1), (3, .ref o)]) hx hb dL_back_13 hl (by decide) rfl (fun ls hl => ?_)
      refine lv_iconst (v := 1) hx hb dL_back_15 (by decide) ?_
      exact gr_i hx hb hr hlocks hK hP hD hS hw (Nat.le_of_ble_eq_true rfl) (Nat.le_of_ble_eq_true rfl) dL_back_16
    · refine vx_catch (own := RL9) (name := "java/lang/UnsupportedOperationException") (E := "java/lang/UnsupportedOperationException") hown [⟨0, 10, 13, 13⟩] ⟨0, 10, 17, 15⟩ [] (by rw [hTab]; rfl) (by
          intro z hz
          rcases List.mem_cons.mp hz with rfl | hz
          · exact Or.inr ⟨by decide, "java/lang/IllegalArgumentException", (hto (.classLink RL9 13 "java/lang/IllegalArgumentException") (by decide +kernel)), hG.2.1 ("java/lang/UnsupportedOperationException", "java/lang/IllegalArgumentException") (by decide +kernel)⟩
          cases hz) (by decide) (by decide) (hto (.classLink RL9 15 "java/lang/UnsupportedOperationException") (by decide +kernel)) (va_Nw.use rfl (hG.1 (.castable "java/lang/UnsupportedOperationException" "java/lang/UnsupportedOperationException") (by decide +kernel))) hce hcv hcl ?_
      refine lv_astore (lv' := [(4, .ref q9), (0, .ref h), (1, .int p0), (2, .int p1), (3, .ref o)]) hx hb dL_back_17 hl (by decide) rfl (fun ls hl => ?_)
      refine lv_iconst (v := 2) hx hb dL_back_19 (by decide) ?_
      exact gr_i hx hb hr hlocks hK hP hD hS hw (Nat.le_of_ble_eq_true rfl) (Nat.le_of_ble_eq_true rfl) dL_back_20
  have hP : va_P D vwCl (LWf cI cL cZ h a o (S.1, S1)) H := hP
  have hD : va_D A (LWf cI cL cZ h a o (S.1, S1)) := hD
  refine lv_i2l (v := r2.toInt64) hx hb dL_back_8 rfl ?_
  obtain ⟨hi3, hw⟩ := hw
  refine g_last (wf := LWf cI cL cZ h a o) (S' := luO (S.1, S1) 0 r2.toInt64) hx hb hK hP hD hS 0 1 (LWc_0 cI cL cZ h a o (S.1, S1)) rfl rfl hi3 dL_back_9 (fun S4 eS4 H locs hP hD hS => ?_)
  have hw := hw S4 eS4
  refine lv_goto (tgt := 21) hx hb dL_back_10 (by decide) ?_
  refine lv_iconst (v := 0) hx hb dL_back_21 (by decide) ?_
  exact gr_i hx hb hr hlocks hK hP hD hS hw (Nat.le_of_ble_eq_true rfl) (Nat.le_of_ble_eq_true rfl) dL_back_22
def wp_L_at (post : Int32 → LSt → Prop) (p0 : Int32) (p1 : Int32) (S : LSt) : Prop := (wp_X_at (fun r2 S1 => (vp_in 0 1 ∧ (∀ S4 : LSt, S4 = luO (S.1, S1) 0 r2.toInt64 → (post 0 S4)))) (fun E S1 => (E = "java/lang/IndexOutOfBoundsException" ∧ (post 1 (S.1, S1)))) p0 p1 S.2)
set_option maxHeartbeats 4000000 in
set_option maxRecDepth 100000 in
theorem c_L_at (l : Launch) (hl9 : l.stackTraces = false) (D : va_G) (cI cL cZ : ClassId) (h : Nat) (a : Nat → Nat) (o : Nat) (post : Int32 → LSt → Prop) (p0 : Int32) (p1 : Int32) (S : LSt) (hw : wp_L_at post p0 p1 S) : gMi l yL_at wsL_at ({ frames := 8, cells := 1, slots := 6, locals := 125 }) D [(cI, .int), (cL, .long), (cZ, .boolean)] [.ref h, .int p0, .int p1, .ref o] (LWf cI cL cZ h a o S) (LWf cI cL cZ h a o) post := by
  refine g_ofWi (cc := cL_at) (maxL := 5) (ret := (some .int)) (own := RL9) (by decide) rfl rfl (Nat.le_of_ble_eq_true rfl) ?_
  intro p e s m below meth c A H locs ls C hr hlocks hTab hK hG hA hP hD hS hl
  obtain ⟨hx, hb, hml, hown, hts⟩ := id C
  have hts := fun w (h9 : w ∈ gW) => hts w (List.mem_cons_of_mem _ h9)
  have hto := fun w (h9 : w ∈ gWo) => hts w (gWo_in w h9)
  have hl : lv_has ls 5 [(0, .ref h), (1, .int p0), (2, .int p1), (3, .ref o)] := hl
  dsimp only [wp_L_at] at hw
  refine lv_aload_n hx hb dL_at_0 rfl (lv_at hl 3 rfl) ?_
  refine lv_iconst (v := 0) hx hb dL_at_1 (by decide) ?_
  refine lv_aload_n hx hb dL_at_2 rfl (lv_at hl 0 rfl) ?_
  refine lv_iload_n hx hb dL_at_3 rfl (lv_at hl 1 rfl) ?_
  refine lv_iload_n hx hb dL_at_4 rfl (lv_at hl 2 rfl) ?_
  refine gk_xi (wr := [(o, .inl (cL, 1, .inr (.inl S.1)))]) (wc := XW cI cL cZ h a S.2) (wfc := XW cI cL cZ h a) hP hD hS hA (vx_runV (As := [.int p0, .int p1]) (rest := [.int 0, .ref o]) C (c_X_at l hl9 D cI cL cZ h a _ _ p0 p1 S.2 hw H.size) (cwV 2 hts (gGV (by decide +kernel) kX_at) rfl rfl rfl (by decide +kernel) ⟨Nat.le_of_ble_eq_true rfl, Nat.le_of_ble_eq_true rfl⟩) (g_preV (wr := [(o, .inl (cL, 1, .inr (.inl S.1)))]) (wc := XW cI cL cZ h a S.2) (ci := 1) hK hG hA hP hD hS rfl (XWc_0 cI cL cZ h a S.2) rfl) rfl rfl hl.1 rfl (lv_room (Nat.le_of_ble_eq_true rfl)) dL_at_5 ⟨Nat.le_of_ble_eq_true rfl, Nat.le_of_ble_eq_true rfl⟩) (fun E S1 ce q9 H locs hw hP hD hS hce hcv hcl => ?_) (fun r2 S1 H locs hw hP hD hS => ?_)
  · have hP : va_P D vwCl (LWf cI cL cZ h a o (S.1, S1)) H := hP
    have hD : va_D A (LWf cI cL cZ h a o (S.1, S1)) := hD
    rcases hw with ⟨rfl, hw⟩
    · refine vx_catch (own := RL9) (name := "java/lang/IndexOutOfBoundsException") (E := "java/lang/IndexOutOfBoundsException") hown [] ⟨0, 10, 13, 20⟩ [] (by rw [hTab]; rfl) (fun z hz => nomatch hz) (by decide) (by decide) (hto (.classLink RL9 20 "java/lang/IndexOutOfBoundsException") (by decide +kernel)) (va_Nw.use rfl (hG.1 (.castable "java/lang/IndexOutOfBoundsException" "java/lang/IndexOutOfBoundsException") (by decide +kernel))) hce hcv hcl ?_
      refine lv_astore (lv' := [(4, .ref q9), (0, .ref h), (1, .int p0), (2, .int p1), (3, .ref o)]) hx hb dL_at_13 hl (by decide) rfl (fun ls hl => ?_)
      refine lv_iconst (v := 1) hx hb dL_at_15 (by decide) ?_
      exact gr_i hx hb hr hlocks hK hP hD hS hw (Nat.le_of_ble_eq_true rfl) (Nat.le_of_ble_eq_true rfl) dL_at_16
  have hP : va_P D vwCl (LWf cI cL cZ h a o (S.1, S1)) H := hP
  have hD : va_D A (LWf cI cL cZ h a o (S.1, S1)) := hD
  refine lv_i2l (v := r2.toInt64) hx hb dL_at_8 rfl ?_
  obtain ⟨hi3, hw⟩ := hw
  refine g_last (wf := LWf cI cL cZ h a o) (S' := luO (S.1, S1) 0 r2.toInt64) hx hb hK hP hD hS 0 1 (LWc_0 cI cL cZ h a o (S.1, S1)) rfl rfl hi3 dL_at_9 (fun S4 eS4 H locs hP hD hS => ?_)
  have hw := hw S4 eS4
  refine lv_goto (tgt := 17) hx hb dL_at_10 (by decide) ?_
  refine lv_iconst (v := 0) hx hb dL_at_17 (by decide) ?_
  exact gr_i hx hb hr hlocks hK hP hD hS hw (Nat.le_of_ble_eq_true rfl) (Nat.le_of_ble_eq_true rfl) dL_at_18
def wp_L_origin (post : Int32 → LSt → Prop) (p0 : Int32) (p1 : Int32) (p2 : Int32) (S : LSt) : Prop := (wp_X_origin (fun r2 S1 => (vp_in 0 1 ∧ (∀ S4 : LSt, S4 = luO (S.1, S1) 0 r2 → (post 0 S4)))) (fun E S1 => (E = "java/lang/IndexOutOfBoundsException" ∧ (post 1 (S.1, S1))) ∨ (E = "java/lang/IllegalArgumentException" ∧ (post 2 (S.1, S1)))) p0 p1 p2 S.2)
set_option maxHeartbeats 4000000 in
set_option maxRecDepth 100000 in
theorem c_L_origin (l : Launch) (hl9 : l.stackTraces = false) (D : va_G) (cI cL cZ : ClassId) (h : Nat) (a : Nat → Nat) (o : Nat) (post : Int32 → LSt → Prop) (p0 : Int32) (p1 : Int32) (p2 : Int32) (S : LSt) (hw : wp_L_origin post p0 p1 p2 S) : gMi l yL_origin wsL_origin ({ frames := 8, cells := 1, slots := 6, locals := 128 }) D [(cI, .int), (cL, .long), (cZ, .boolean)] [.ref h, .int p0, .int p1, .int p2, .ref o] (LWf cI cL cZ h a o S) (LWf cI cL cZ h a o) post := by
  refine g_ofWi (cc := cL_origin) (maxL := 6) (ret := (some .int)) (own := RL9) (by decide) rfl rfl (Nat.le_of_ble_eq_true rfl) ?_
  intro p e s m below meth c A H locs ls C hr hlocks hTab hK hG hA hP hD hS hl
  obtain ⟨hx, hb, hml, hown, hts⟩ := id C
  have hts := fun w (h9 : w ∈ gW) => hts w (List.mem_cons_of_mem _ h9)
  have hto := fun w (h9 : w ∈ gWo) => hts w (gWo_in w h9)
  have hl : lv_has ls 6 [(0, .ref h), (1, .int p0), (2, .int p1), (3, .int p2), (4, .ref o)] := hl
  dsimp only [wp_L_origin] at hw
  refine lv_aload hx hb dL_origin_0 (lv_at hl 4 rfl) ?_
  refine lv_iconst (v := 0) hx hb dL_origin_2 (by decide) ?_
  refine lv_aload_n hx hb dL_origin_3 rfl (lv_at hl 0 rfl) ?_
  refine lv_iload_n hx hb dL_origin_4 rfl (lv_at hl 1 rfl) ?_
  refine lv_iload_n hx hb dL_origin_5 rfl (lv_at hl 2 rfl) ?_
  refine lv_iload_n hx hb dL_origin_6 rfl (lv_at hl 3 rfl) ?_
  refine gk_xl (wr := [(o, .inl (cL, 1, .inr (.inl S.1)))]) (wc := XW cI cL cZ h a S.2) (wfc := XW cI cL cZ h a) hP hD hS hA (vx_runV (As := [.int p0, .int p1, .int p2]) (rest := [.int 0, .ref o]) C (c_X_origin l hl9 D cI cL cZ h a _ _ p0 p1 p2 S.2 hw H.size) (cwV 3 hts (gGV (by decide +kernel) kX_origin) rfl rfl rfl (by decide +kernel) ⟨Nat.le_of_ble_eq_true rfl, Nat.le_of_ble_eq_true rfl⟩) (g_preV (wr := [(o, .inl (cL, 1, .inr (.inl S.1)))]) (wc := XW cI cL cZ h a S.2) (ci := 1) hK hG hA hP hD hS rfl (XWc_0 cI cL cZ h a S.2) rfl) rfl rfl hl.1 rfl (lv_room (Nat.le_of_ble_eq_true rfl)) dL_origin_7 ⟨Nat.le_of_ble_eq_true rfl, Nat.le_of_ble_eq_true rfl⟩) (fun E S1 ce q9 H locs hw hP hD hS hce hcv hcl => ?_) (fun r2 S1 H locs hw hP hD hS => ?_)
  · have hP : va_P D vwCl (LWf cI cL cZ h a o (S.1, S1)) H := hP
    have hD : va_D A (LWf cI cL cZ h a o (S.1, S1)) := hD
    rcases hw with ⟨rfl, hw⟩ | ⟨rfl, hw⟩
    · refine vx_catch (own := RL9) (name := "java/lang/IndexOutOfBoundsException") (E := "java/lang/IndexOutOfBoundsException") hown [] ⟨0, 11, 14, 20⟩ [⟨0, 11, 18, 13⟩] (by rw [hTab]; rfl) (fun z hz => nomatch hz) (by decide) (by decide) (hto (.classLink RL9 20 "java/lang/IndexOutOfBoundsException") (by decide +kernel)) (va_Nw.use rfl (hG.1 (.castable "java/lang/IndexOutOfBoundsException" "java/lang/IndexOutOfBoundsException") (by decide +kernel))) hce hcv hcl ?_
      refine lv_astore (lv' := [(5, .ref q9), (0, .ref h), (1, .int p0), (2, .int p1), (3, .int p2), (4, .ref o)]) hx hb dL_origin_14 hl (by decide) rfl (fun ls hl => ?_)
      refine lv_iconst (v := 1) hx hb dL_origin_16 (by decide) ?_
      exact gr_i hx hb hr hlocks hK hP hD hS hw (Nat.le_of_ble_eq_true rfl) (Nat.le_of_ble_eq_true rfl) dL_origin_17
    · refine vx_catch (own := RL9) (name := "java/lang/IllegalArgumentException") (E := "java/lang/IllegalArgumentException") hown [⟨0, 11, 14, 20⟩] ⟨0, 11, 18, 13⟩ [] (by rw [hTab]; rfl) (by
          intro z hz
          rcases List.mem_cons.mp hz with rfl | hz
          · exact Or.inr ⟨by decide, "java/lang/IndexOutOfBoundsException", (hto (.classLink RL9 20 "java/lang/IndexOutOfBoundsException") (by decide +kernel)), hG.2.1 ("java/lang/IllegalArgumentException", "java/lang/IndexOutOfBoundsException") (by decide +kernel)⟩
          cases hz) (by decide) (by decide) (hto (.classLink RL9 13 "java/lang/IllegalArgumentException") (by decide +kernel)) (va_Nw.use rfl (hG.1 (.castable "java/lang/IllegalArgumentException" "java/lang/IllegalArgumentException") (by decide +kernel))) hce hcv hcl ?_
      refine lv_astore (lv' := [(5, .ref q9), (0, .ref h), (1, .int p0), (2, .int p1), (3, .int p2), (4, .ref o)]) hx hb dL_origin_18 hl (by decide) rfl (fun ls hl => ?_)
      refine lv_iconst (v := 2) hx hb dL_origin_20 (by decide) ?_
      exact gr_i hx hb hr hlocks hK hP hD hS hw (Nat.le_of_ble_eq_true rfl) (Nat.le_of_ble_eq_true rfl) dL_origin_21
  have hP : va_P D vwCl (LWf cI cL cZ h a o (S.1, S1)) H := hP
  have hD : va_D A (LWf cI cL cZ h a o (S.1, S1)) := hD
  obtain ⟨hi3, hw⟩ := hw
  refine g_last (wf := LWf cI cL cZ h a o) (S' := luO (S.1, S1) 0 r2) hx hb hK hP hD hS 0 1 (LWc_0 cI cL cZ h a o (S.1, S1)) rfl rfl hi3 dL_origin_10 (fun S4 eS4 H locs hP hD hS => ?_)
  have hw := hw S4 eS4
  refine lv_goto (tgt := 22) hx hb dL_origin_11 (by decide) ?_
  refine lv_iconst (v := 0) hx hb dL_origin_22 (by decide) ?_
  exact gr_i hx hb hr hlocks hK hP hD hS hw (Nat.le_of_ble_eq_true rfl) (Nat.le_of_ble_eq_true rfl) dL_origin_23
def wp_L_defect (post : Int32 → LSt → Prop) (p0 : Int32) (p1 : Int32) (S : LSt) : Prop := (wp_X_defect (fun r2 S1 => (vp_in 0 1 ∧ (∀ S4 : LSt, S4 = luO (S.1, S1) 0 r2.toInt64 → (post 0 S4)))) (fun E S1 => (E = "java/lang/IndexOutOfBoundsException" ∧ (post 1 (S.1, S1))) ∨ (E = "java/lang/IllegalArgumentException" ∧ (post 2 (S.1, S1))) ∨ (E = "java/lang/UnsupportedOperationException" ∧ (post 3 (S.1, S1)))) p0 p1 S.2)
set_option maxHeartbeats 4000000 in
set_option maxRecDepth 100000 in
theorem c_L_defect (l : Launch) (hl9 : l.stackTraces = false) (D : va_G) (cI cL cZ : ClassId) (h : Nat) (a : Nat → Nat) (o : Nat) (post : Int32 → LSt → Prop) (p0 : Int32) (p1 : Int32) (S : LSt) (hw : wp_L_defect post p0 p1 S) : gMi l yL_defect wsL_defect ({ frames := 8, cells := 1, slots := 6, locals := 127 }) D [(cI, .int), (cL, .long), (cZ, .boolean)] [.ref h, .int p0, .int p1, .ref o] (LWf cI cL cZ h a o S) (LWf cI cL cZ h a o) post := by
  refine g_ofWi (cc := cL_defect) (maxL := 5) (ret := (some .int)) (own := RL9) (by decide) rfl rfl (Nat.le_of_ble_eq_true rfl) ?_
  intro p e s m below meth c A H locs ls C hr hlocks hTab hK hG hA hP hD hS hl
  obtain ⟨hx, hb, hml, hown, hts⟩ := id C
  have hts := fun w (h9 : w ∈ gW) => hts w (List.mem_cons_of_mem _ h9)
  have hto := fun w (h9 : w ∈ gWo) => hts w (gWo_in w h9)
  have hl : lv_has ls 5 [(0, .ref h), (1, .int p0), (2, .int p1), (3, .ref o)] := hl
  dsimp only [wp_L_defect] at hw
  refine lv_aload_n hx hb dL_defect_0 rfl (lv_at hl 3 rfl) ?_
  refine lv_iconst (v := 0) hx hb dL_defect_1 (by decide) ?_
  refine lv_aload_n hx hb dL_defect_2 rfl (lv_at hl 0 rfl) ?_
  refine lv_iload_n hx hb dL_defect_3 rfl (lv_at hl 1 rfl) ?_
  refine lv_iload_n hx hb dL_defect_4 rfl (lv_at hl 2 rfl) ?_
  refine gk_xi (wr := [(o, .inl (cL, 1, .inr (.inl S.1)))]) (wc := XW cI cL cZ h a S.2) (wfc := XW cI cL cZ h a) hP hD hS hA (vx_runV (As := [.int p0, .int p1]) (rest := [.int 0, .ref o]) C (c_X_defect l hl9 D cI cL cZ h a _ _ p0 p1 S.2 hw H.size) (cwV 2 hts (gGV (by decide +kernel) kX_defect) rfl rfl rfl (by decide +kernel) ⟨Nat.le_of_ble_eq_true rfl, Nat.le_of_ble_eq_true rfl⟩) (g_preV (wr := [(o, .inl (cL, 1, .inr (.inl S.1)))]) (wc := XW cI cL cZ h a S.2) (ci := 1) hK hG hA hP hD hS rfl (XWc_0 cI cL cZ h a S.2) rfl) rfl rfl hl.1 rfl (lv_room (Nat.le_of_ble_eq_true rfl)) dL_defect_5 ⟨Nat.le_of_ble_eq_true rfl, Nat.le_of_ble_eq_true rfl⟩) (fun E S1 ce q9 H locs hw hP hD hS hce hcv hcl => ?_) (fun r2 S1 H locs hw hP hD hS => ?_)
  · have hP : va_P D vwCl (LWf cI cL cZ h a o (S.1, S1)) H := hP
    have hD : va_D A (LWf cI cL cZ h a o (S.1, S1)) := hD
    rcases hw with ⟨rfl, hw⟩ | ⟨rfl, hw⟩ | ⟨rfl, hw⟩
    · refine vx_catch (own := RL9) (name := "java/lang/IndexOutOfBoundsException") (E := "java/lang/IndexOutOfBoundsException") hown [] ⟨0, 10, 13, 20⟩ [⟨0, 10, 17, 13⟩, ⟨0, 10, 21, 15⟩] (by rw [hTab]; rfl) (fun z hz => nomatch hz) (by decide) (by decide) (hto (.classLink RL9 20 "java/lang/IndexOutOfBoundsException") (by decide +kernel)) (va_Nw.use rfl (hG.1 (.castable "java/lang/IndexOutOfBoundsException" "java/lang/IndexOutOfBoundsException") (by decide +kernel))) hce hcv hcl ?_
      refine lv_astore (lv' := [(4, .ref q9), (0, .ref h), (1, .int p0), (2, .int p1), (3, .ref o)]) hx hb dL_defect_13 hl (by decide) rfl (fun ls hl => ?_)
      refine lv_iconst (v := 1) hx hb dL_defect_15 (by decide) ?_
      exact gr_i hx hb hr hlocks hK hP hD hS hw (Nat.le_of_ble_eq_true rfl) (Nat.le_of_ble_eq_true rfl) dL_defect_16
    · refine vx_catch (own := RL9) (name := "java/lang/IllegalArgumentException") (E := "java/lang/IllegalArgumentException") hown [⟨0, 10, 13, 20⟩] ⟨0, 10, 17, 13⟩ [⟨0, 10, 21, 15⟩] (by rw [hTab]; rfl) (by
          intro z hz
          rcases List.mem_cons.mp hz with rfl | hz
          · exact Or.inr ⟨by decide, "java/lang/IndexOutOfBoundsException", (hto (.classLink RL9 20 "java/lang/IndexOutOfBoundsException") (by decide +kernel)), hG.2.1 ("java/lang/IllegalArgumentException", "java/lang/IndexOutOfBoundsException") (by decide +kernel)⟩
          cases hz) (by decide) (by decide) (hto (.classLink RL9 13 "java/lang/IllegalArgumentException") (by decide +kernel)) (va_Nw.use rfl (hG.1 (.castable "java/lang/IllegalArgumentException" "java/lang/IllegalArgumentException") (by decide +kernel))) hce hcv hcl ?_
      refine lv_astore (lv' := [(4, .ref q9), (0, .ref h), (1, .int p0), (2, .int p1), (3, .ref o)]) hx hb dL_defect_17 hl (by decide) rfl (fun ls hl => ?_)
      refine lv_iconst (v := 2) hx hb dL_defect_19 (by decide) ?_
      exact gr_i hx hb hr hlocks hK hP hD hS hw (Nat.le_of_ble_eq_true rfl) (Nat.le_of_ble_eq_true rfl) dL_defect_20
    · refine vx_catch (own := RL9) (name := "java/lang/UnsupportedOperationException") (E := "java/lang/UnsupportedOperationException") hown [⟨0, 10, 13, 20⟩, ⟨0, 10, 17, 13⟩] ⟨0, 10, 21, 15⟩ [] (by rw [hTab]; rfl) (by
          intro z hz
          rcases List.mem_cons.mp hz with rfl | hz
          · exact Or.inr ⟨by decide, "java/lang/IndexOutOfBoundsException", (hto (.classLink RL9 20 "java/lang/IndexOutOfBoundsException") (by decide +kernel)), hG.2.1 ("java/lang/UnsupportedOperationException", "java/lang/IndexOutOfBoundsException") (by decide +kernel)⟩
          rcases List.mem_cons.mp hz with rfl | hz
          · exact Or.inr ⟨by decide, "java/lang/IllegalArgumentException", (hto (.classLink RL9 13 "java/lang/IllegalArgumentException") (by decide +kernel)), hG.2.1 ("java/lang/UnsupportedOperationException", "java/lang/IllegalArgumentException") (by decide +kernel)⟩
          cases hz) (by decide) (by decide) (hto (.classLink RL9 15 "java/lang/UnsupportedOperationException") (by decide +kernel)) (va_Nw.use rfl (hG.1 (.castable "java/lang/UnsupportedOperationException" "java/lang/UnsupportedOperationException") (by decide +kernel))) hce hcv hcl ?_
      refine lv_astore (lv' := [(4, .ref q9), (0, .ref h), (1, .int p0), (2, .int p1), (3, .ref o)]) hx hb dL_defect_21 hl (by decide) rfl (fun ls hl => ?_)
      refine lv_iconst (v := 3) hx hb dL_defect_23 (by decide) ?_
      exact gr_i hx hb hr hlocks hK hP hD hS hw (Nat.le_of_ble_eq_true rfl) (Nat.le_of_ble_eq_true rfl) dL_defect_24
  have hP : va_P D vwCl (LWf cI cL cZ h a o (S.1, S1)) H := hP
  have hD : va_D A (LWf cI cL cZ h a o (S.1, S1)) := hD
  refine lv_i2l (v := r2.toInt64) hx hb dL_defect_8 rfl ?_
  obtain ⟨hi3, hw⟩ := hw
  refine g_last (wf := LWf cI cL cZ h a o) (S' := luO (S.1, S1) 0 r2.toInt64) hx hb hK hP hD hS 0 1 (LWc_0 cI cL cZ h a o (S.1, S1)) rfl rfl hi3 dL_defect_9 (fun S4 eS4 H locs hP hD hS => ?_)
  have hw := hw S4 eS4
  refine lv_goto (tgt := 25) hx hb dL_defect_10 (by decide) ?_
  refine lv_iconst (v := 0) hx hb dL_defect_25 (by decide) ?_
  exact gr_i hx hb hr hlocks hK hP hD hS hw (Nat.le_of_ble_eq_true rfl) (Nat.le_of_ble_eq_true rfl) dL_defect_26
def wp_L_has (post : Int32 → LSt → Prop) (p0 : Int32) (p1 : Int32) (p2 : Int32) (S : LSt) : Prop := (wp_X_has (fun r2 S1 => (vp_in 0 1 ∧ (∀ S4 : LSt, S4 = luO (S.1, S1) 0 r2 → (post 0 S4)))) (fun E S1 => (E = "java/lang/IndexOutOfBoundsException" ∧ (post 1 (S.1, S1)))) p0 p1 p2 S.2)
set_option maxHeartbeats 4000000 in
set_option maxRecDepth 100000 in
theorem c_L_has (l : Launch) (hl9 : l.stackTraces = false) (D : va_G) (cI cL cZ : ClassId) (h : Nat) (a : Nat → Nat) (o : Nat) (post : Int32 → LSt → Prop) (p0 : Int32) (p1 : Int32) (p2 : Int32) (S : LSt) (hw : wp_L_has post p0 p1 p2 S) : gMi l yL_has wsL_has ({ frames := 8, cells := 1, slots := 6, locals := 126 }) D [(cI, .int), (cL, .long), (cZ, .boolean)] [.ref h, .int p0, .int p1, .int p2, .ref o] (LWf cI cL cZ h a o S) (LWf cI cL cZ h a o) post := by
  refine g_ofWi (cc := cL_has) (maxL := 6) (ret := (some .int)) (own := RL9) (by decide) rfl rfl (Nat.le_of_ble_eq_true rfl) ?_
  intro p e s m below meth c A H locs ls C hr hlocks hTab hK hG hA hP hD hS hl
  obtain ⟨hx, hb, hml, hown, hts⟩ := id C
  have hts := fun w (h9 : w ∈ gW) => hts w (List.mem_cons_of_mem _ h9)
  have hto := fun w (h9 : w ∈ gWo) => hts w (gWo_in w h9)
  have hl : lv_has ls 6 [(0, .ref h), (1, .int p0), (2, .int p1), (3, .int p2), (4, .ref o)] := hl
  dsimp only [wp_L_has] at hw
  refine lv_aload hx hb dL_has_0 (lv_at hl 4 rfl) ?_
  refine lv_iconst (v := 0) hx hb dL_has_2 (by decide) ?_
  refine lv_aload_n hx hb dL_has_3 rfl (lv_at hl 0 rfl) ?_
  refine lv_iload_n hx hb dL_has_4 rfl (lv_at hl 1 rfl) ?_
  refine lv_iload_n hx hb dL_has_5 rfl (lv_at hl 2 rfl) ?_
  refine lv_iload_n hx hb dL_has_6 rfl (lv_at hl 3 rfl) ?_
  refine gk_xl (wr := [(o, .inl (cL, 1, .inr (.inl S.1)))]) (wc := XW cI cL cZ h a S.2) (wfc := XW cI cL cZ h a) hP hD hS hA (vx_runV (As := [.int p0, .int p1, .int p2]) (rest := [.int 0, .ref o]) C (c_X_has l hl9 D cI cL cZ h a _ _ p0 p1 p2 S.2 hw H.size) (cwV 3 hts (gGV (by decide +kernel) kX_has) rfl rfl rfl (by decide +kernel) ⟨Nat.le_of_ble_eq_true rfl, Nat.le_of_ble_eq_true rfl⟩) (g_preV (wr := [(o, .inl (cL, 1, .inr (.inl S.1)))]) (wc := XW cI cL cZ h a S.2) (ci := 1) hK hG hA hP hD hS rfl (XWc_0 cI cL cZ h a S.2) rfl) rfl rfl hl.1 rfl (lv_room (Nat.le_of_ble_eq_true rfl)) dL_has_7 ⟨Nat.le_of_ble_eq_true rfl, Nat.le_of_ble_eq_true rfl⟩) (fun E S1 ce q9 H locs hw hP hD hS hce hcv hcl => ?_) (fun r2 S1 H locs hw hP hD hS => ?_)
  · have hP : va_P D vwCl (LWf cI cL cZ h a o (S.1, S1)) H := hP
    have hD : va_D A (LWf cI cL cZ h a o (S.1, S1)) := hD
    rcases hw with ⟨rfl, hw⟩
    · refine vx_catch (own := RL9) (name := "java/lang/IndexOutOfBoundsException") (E := "java/lang/IndexOutOfBoundsException") hown [] ⟨0, 11, 14, 20⟩ [] (by rw [hTab]; rfl) (fun z hz => nomatch hz) (by decide) (by decide) (hto (.classLink RL9 20 "java/lang/IndexOutOfBoundsException") (by decide +kernel)) (va_Nw.use rfl (hG.1 (.castable "java/lang/IndexOutOfBoundsException" "java/lang/IndexOutOfBoundsException") (by decide +kernel))) hce hcv hcl ?_
      refine lv_astore (lv' := [(5, .ref q9), (0, .ref h), (1, .int p0), (2, .int p1), (3, .int p2), (4, .ref o)]) hx hb dL_has_14 hl (by decide) rfl (fun ls hl => ?_)
      refine lv_iconst (v := 1) hx hb dL_has_16 (by decide) ?_
      exact gr_i hx hb hr hlocks hK hP hD hS hw (Nat.le_of_ble_eq_true rfl) (Nat.le_of_ble_eq_true rfl) dL_has_17
  have hP : va_P D vwCl (LWf cI cL cZ h a o (S.1, S1)) H := hP
  have hD : va_D A (LWf cI cL cZ h a o (S.1, S1)) := hD
  obtain ⟨hi3, hw⟩ := hw
  refine g_last (wf := LWf cI cL cZ h a o) (S' := luO (S.1, S1) 0 r2) hx hb hK hP hD hS 0 1 (LWc_0 cI cL cZ h a o (S.1, S1)) rfl rfl hi3 dL_has_10 (fun S4 eS4 H locs hP hD hS => ?_)
  have hw := hw S4 eS4
  refine lv_goto (tgt := 18) hx hb dL_has_11 (by decide) ?_
  refine lv_iconst (v := 0) hx hb dL_has_18 (by decide) ?_
  exact gr_i hx hb hr hlocks hK hP hD hS hw (Nat.le_of_ble_eq_true rfl) (Nat.le_of_ble_eq_true rfl) dL_has_19
def wp_L_recall (post : Int32 → LSt → Prop) (p0 : Int32) (p1 : Int32) (S : LSt) : Prop := (wp_X_recall (fun r2 S1 => (vp_in 0 1 ∧ (∀ S4 : LSt, S4 = luO (S.1, S1) 0 r2.toInt64 → (post 0 S4)))) (fun E S1 => (E = "java/lang/IndexOutOfBoundsException" ∧ (post 1 (S.1, S1)))) p0 p1 S.2)
set_option maxHeartbeats 4000000 in
set_option maxRecDepth 100000 in
theorem c_L_recall (l : Launch) (hl9 : l.stackTraces = false) (D : va_G) (cI cL cZ : ClassId) (h : Nat) (a : Nat → Nat) (o : Nat) (post : Int32 → LSt → Prop) (p0 : Int32) (p1 : Int32) (S : LSt) (hw : wp_L_recall post p0 p1 S) : gMi l yL_recall wsL_recall ({ frames := 8, cells := 1, slots := 6, locals := 127 }) D [(cI, .int), (cL, .long), (cZ, .boolean)] [.ref h, .int p0, .int p1, .ref o] (LWf cI cL cZ h a o S) (LWf cI cL cZ h a o) post := by
  refine g_ofWi (cc := cL_recall) (maxL := 5) (ret := (some .int)) (own := RL9) (by decide) rfl rfl (Nat.le_of_ble_eq_true rfl) ?_
  intro p e s m below meth c A H locs ls C hr hlocks hTab hK hG hA hP hD hS hl
  obtain ⟨hx, hb, hml, hown, hts⟩ := id C
  have hts := fun w (h9 : w ∈ gW) => hts w (List.mem_cons_of_mem _ h9)
  have hto := fun w (h9 : w ∈ gWo) => hts w (gWo_in w h9)
  have hl : lv_has ls 5 [(0, .ref h), (1, .int p0), (2, .int p1), (3, .ref o)] := hl
  dsimp only [wp_L_recall] at hw
  refine lv_aload_n hx hb dL_recall_0 rfl (lv_at hl 3 rfl) ?_
  refine lv_iconst (v := 0) hx hb dL_recall_1 (by decide) ?_
  refine lv_aload_n hx hb dL_recall_2 rfl (lv_at hl 0 rfl) ?_
  refine lv_iload_n hx hb dL_recall_3 rfl (lv_at hl 1 rfl) ?_
  refine lv_iload_n hx hb dL_recall_4 rfl (lv_at hl 2 rfl) ?_
  refine gk_xi (wr := [(o, .inl (cL, 1, .inr (.inl S.1)))]) (wc := XW cI cL cZ h a S.2) (wfc := XW cI cL cZ h a) hP hD hS hA (vx_runV (As := [.int p0, .int p1]) (rest := [.int 0, .ref o]) C (c_X_recall l hl9 D cI cL cZ h a _ _ p0 p1 S.2 hw H.size) (cwV 2 hts (gGV (by decide +kernel) kX_recall) rfl rfl rfl (by decide +kernel) ⟨Nat.le_of_ble_eq_true rfl, Nat.le_of_ble_eq_true rfl⟩) (g_preV (wr := [(o, .inl (cL, 1, .inr (.inl S.1)))]) (wc := XW cI cL cZ h a S.2) (ci := 1) hK hG hA hP hD hS rfl (XWc_0 cI cL cZ h a S.2) rfl) rfl rfl hl.1 rfl (lv_room (Nat.le_of_ble_eq_true rfl)) dL_recall_5 ⟨Nat.le_of_ble_eq_true rfl, Nat.le_of_ble_eq_true rfl⟩) (fun E S1 ce q9 H locs hw hP hD hS hce hcv hcl => ?_) (fun r2 S1 H locs hw hP hD hS => ?_)
  · have hP : va_P D vwCl (LWf cI cL cZ h a o (S.1, S1)) H := hP
    have hD : va_D A (LWf cI cL cZ h a o (S.1, S1)) := hD
    rcases hw with ⟨rfl, hw⟩
    · refine vx_catch (own := RL9) (name := "java/lang/IndexOutOfBoundsException") (E := "java/lang/IndexOutOfBoundsException") hown [] ⟨0, 10, 13, 20⟩ [] (by rw [hTab]; rfl) (fun z hz => nomatch hz) (by decide) (by decide) (hto (.classLink RL9 20 "java/lang/IndexOutOfBoundsException") (by decide +kernel)) (va_Nw.use rfl (hG.1 (.castable "java/lang/IndexOutOfBoundsException" "java/lang/IndexOutOfBoundsException") (by decide +kernel))) hce hcv hcl ?_
      refine lv_astore (lv' := [(4, .ref q9), (0, .ref h), (1, .int p0), (2, .int p1), (3, .ref o)]) hx hb dL_recall_13 hl (by decide) rfl (fun ls hl => ?_)
      refine lv_iconst (v := 1) hx hb dL_recall_15 (by decide) ?_
      exact gr_i hx hb hr hlocks hK hP hD hS hw (Nat.le_of_ble_eq_true rfl) (Nat.le_of_ble_eq_true rfl) dL_recall_16
  have hP : va_P D vwCl (LWf cI cL cZ h a o (S.1, S1)) H := hP
  have hD : va_D A (LWf cI cL cZ h a o (S.1, S1)) := hD
  refine lv_i2l (v := r2.toInt64) hx hb dL_recall_8 rfl ?_
  obtain ⟨hi3, hw⟩ := hw
  refine g_last (wf := LWf cI cL cZ h a o) (S' := luO (S.1, S1) 0 r2.toInt64) hx hb hK hP hD hS 0 1 (LWc_0 cI cL cZ h a o (S.1, S1)) rfl rfl hi3 dL_recall_9 (fun S4 eS4 H locs hP hD hS => ?_)
  have hw := hw S4 eS4
  refine lv_goto (tgt := 17) hx hb dL_recall_10 (by decide) ?_
  refine lv_iconst (v := 0) hx hb dL_recall_17 (by decide) ?_
  exact gr_i hx hb hr hlocks hK hP hD hS hw (Nat.le_of_ble_eq_true rfl) (Nat.le_of_ble_eq_true rfl) dL_recall_18
def wp_L_told (post : Int32 → LSt → Prop) (p0 : Int32) (S : LSt) : Prop := (wp_X_told (fun r2 S1 => (vp_in 0 1 ∧ (∀ S4 : LSt, S4 = luO (S.1, S1) 0 r2 → (post 0 S4)))) (fun E S1 => (E = "java/lang/IndexOutOfBoundsException" ∧ (post 1 (S.1, S1)))) p0 S.2)
set_option maxHeartbeats 4000000 in
set_option maxRecDepth 100000 in
theorem c_L_told (l : Launch) (hl9 : l.stackTraces = false) (D : va_G) (cI cL cZ : ClassId) (h : Nat) (a : Nat → Nat) (o : Nat) (post : Int32 → LSt → Prop) (p0 : Int32) (S : LSt) (hw : wp_L_told post p0 S) : gMi l yL_told wsL_told ({ frames := 7, cells := 1, slots := 6, locals := 103 }) D [(cI, .int), (cL, .long), (cZ, .boolean)] [.ref h, .int p0, .ref o] (LWf cI cL cZ h a o S) (LWf cI cL cZ h a o) post := by
  refine g_ofWi (cc := cL_told) (maxL := 4) (ret := (some .int)) (own := RL9) (by decide) rfl rfl (Nat.le_of_ble_eq_true rfl) ?_
  intro p e s m below meth c A H locs ls C hr hlocks hTab hK hG hA hP hD hS hl
  obtain ⟨hx, hb, hml, hown, hts⟩ := id C
  have hts := fun w (h9 : w ∈ gW) => hts w (List.mem_cons_of_mem _ h9)
  have hto := fun w (h9 : w ∈ gWo) => hts w (gWo_in w h9)
  have hl : lv_has ls 4 [(0, .ref h), (1, .int p0), (2, .ref o)] := hl
  dsimp only [wp_L_told] at hw
  refine lv_aload_n hx hb dL_told_0 rfl (lv_at hl 2 rfl) ?_
  refine lv_iconst (v := 0) hx hb dL_told_1 (by decide) ?_
  refine lv_aload_n hx hb dL_told_2 rfl (lv_at hl 0 rfl) ?_
  refine lv_iload_n hx hb dL_told_3 rfl (lv_at hl 1 rfl) ?_
  refine gk_xl (wr := [(o, .inl (cL, 1, .inr (.inl S.1)))]) (wc := XW cI cL cZ h a S.2) (wfc := XW cI cL cZ h a) hP hD hS hA (vx_runV (As := [.int p0]) (rest := [.int 0, .ref o]) C (c_X_told l hl9 D cI cL cZ h a _ _ p0 S.2 hw H.size) (cwV 1 hts (gGV (by decide +kernel) kX_told) rfl rfl rfl (by decide +kernel) ⟨Nat.le_of_ble_eq_true rfl, Nat.le_of_ble_eq_true rfl⟩) (g_preV (wr := [(o, .inl (cL, 1, .inr (.inl S.1)))]) (wc := XW cI cL cZ h a S.2) (ci := 1) hK hG hA hP hD hS rfl (XWc_0 cI cL cZ h a S.2) rfl) rfl rfl hl.1 rfl (lv_room (Nat.le_of_ble_eq_true rfl)) dL_told_4 ⟨Nat.le_of_ble_eq_true rfl, Nat.le_of_ble_eq_true rfl⟩) (fun E S1 ce q9 H locs hw hP hD hS hce hcv hcl => ?_) (fun r2 S1 H locs hw hP hD hS => ?_)
  · have hP : va_P D vwCl (LWf cI cL cZ h a o (S.1, S1)) H := hP
    have hD : va_D A (LWf cI cL cZ h a o (S.1, S1)) := hD
    rcases hw with ⟨rfl, hw⟩
    · refine vx_catch (own := RL9) (name := "java/lang/IndexOutOfBoundsException") (E := "java/lang/IndexOutOfBoundsException") hown [] ⟨0, 8, 11, 20⟩ [] (by rw [hTab]; rfl) (fun z hz => nomatch hz) (by decide) (by decide) (hto (.classLink RL9 20 "java/lang/IndexOutOfBoundsException") (by decide +kernel)) (va_Nw.use rfl (hG.1 (.castable "java/lang/IndexOutOfBoundsException" "java/lang/IndexOutOfBoundsException") (by decide +kernel))) hce hcv hcl ?_
      refine lv_astore_n (lv' := [(3, .ref q9), (0, .ref h), (1, .int p0), (2, .ref o)]) hx hb dL_told_11 rfl hl (by decide) rfl (fun ls hl => ?_)
      refine lv_iconst (v := 1) hx hb dL_told_12 (by decide) ?_
      exact gr_i hx hb hr hlocks hK hP hD hS hw (Nat.le_of_ble_eq_true rfl) (Nat.le_of_ble_eq_true rfl) dL_told_13
  have hP : va_P D vwCl (LWf cI cL cZ h a o (S.1, S1)) H := hP
  have hD : va_D A (LWf cI cL cZ h a o (S.1, S1)) := hD
  obtain ⟨hi3, hw⟩ := hw
  refine g_last (wf := LWf cI cL cZ h a o) (S' := luO (S.1, S1) 0 r2) hx hb hK hP hD hS 0 1 (LWc_0 cI cL cZ h a o (S.1, S1)) rfl rfl hi3 dL_told_7 (fun S4 eS4 H locs hP hD hS => ?_)
  have hw := hw S4 eS4
  refine lv_goto (tgt := 14) hx hb dL_told_8 (by decide) ?_
  refine lv_iconst (v := 0) hx hb dL_told_14 (by decide) ?_
  exact gr_i hx hb hr hlocks hK hP hD hS hw (Nat.le_of_ble_eq_true rfl) (Nat.le_of_ble_eq_true rfl) dL_told_15
