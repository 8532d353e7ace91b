def wpJ_M_scrap_27 (post : Int32 → MSt → Prop) (p0 : Int32) (S : MSt) (t0 : Int32) (t1 : Int32) : Prop := (wp_M_throwing (fun r2 S1 => ((r2 = 0 → (vp_in p0 40 ∧ (∀ S5 : MSt, S5 = muSt S1 p0 2 → (vp_in p0 40 ∧ (∀ S7 : MSt, S7 = mshp S5 ((mhp S5) + (mWe S5 p0.toNatClampNeg)) → (post (mhp S7) S7)))))) ∧ (¬ r2 = 0 → (post 0 S1)))) t1 t0 0 0 S)
def wpJ_M_scrap_14 (post : Int32 → MSt → Prop) (p0 : Int32) (S : MSt) (t0 : Int32) : Prop := (wp_M_isAtHand (fun r9 S8 => ((r9 = 0 → (wpJ_M_scrap_27 post p0 S8 1 t0)) ∧ (¬ r9 = 0 → (wpJ_M_scrap_27 post p0 S8 0 t0)))) p0 S)
def wp_M_scrap (post : Int32 → MSt → Prop) (p0 : Int32) (S : MSt) : Prop := (wp_M_isPiece (fun r12 S11 => ((r12 = 0 → (wpJ_M_scrap_14 post p0 S11 1)) ∧ (¬ r12 = 0 → (wpJ_M_scrap_14 post p0 S11 0)))) p0 S)
set_option maxHeartbeats 4000000 in
set_option maxRecDepth 100000 in
theorem c_M_scrap (l : Launch) (hl9 : l.stackTraces = false) (D : va_G) (cI cL cZ : ClassId) (hm : Nat) (am : Nat → Nat) (post : Int32 → MSt → Prop) (p0 : Int32) (S : MSt) (hw : wp_M_scrap post p0 S) : gMi l yM_scrap wsM_scrap ({ frames := 3, cells := 0, slots := 0, locals := 64 }) D [(cI, .int), (cL, .long), (cZ, .boolean)] [.ref hm, .int p0] (MW cI cL cZ hm am S) (MW cI cL cZ hm am) post := by
  refine g_ofMi (cc := cM_scrap) (maxL := 2) (ret := (some .int)) (own := RM9) (by decide) rfl rfl (Nat.le_of_ble_eq_true rfl) ?_
  intro p e s m below meth c A H locs ls C hr hlocks hK hG hA hP hD hS hl
  obtain ⟨hx, hb, hml, hown, hts⟩ := id C
  have hts := fun w (h9 : w ∈ gW) => hts w (List.mem_cons_of_mem _ h9)
  have hto := fun w (h9 : w ∈ gWo) => hts w (gWo_in w h9)
  have hl : lv_has ls 2 [(0, .ref hm), (1, .int p0)] := hl
  have hJ27 : ∀ (S : MSt) (t0 : Int32) (t1 : Int32), (t0 = 0 ∨ t0 = 1) → (t1 = 0 ∨ t1 = 1) → ∀ (H : Heap) (locs : List Loc) (ls : Array Slot), wpJ_M_scrap_27 post p0 S t0 t1 → va_P D vwCl (MW cI cL cZ hm am S) H → va_D A (MW cI cL cZ hm am S) → va_S A s.heap H locs → lv_has ls 2 [(0, .ref hm), (1, .int p0)] → W p l e (headSpec wsM_scrap { frames := 3, cells := 0, slots := 0, locals := 64 }).room s m ([.ref hm, .int p0] : List Value).toArray below meth c H locs 0 0 (MQ below (gQi D [(cI, .int), (cL, .long), (cZ, .boolean)] (MW cI cL cZ hm am) post A) ([.ref hm, .int p0] : List Value).toArray s 0 0 A) (F0 m 27 ls [.int t0, .int t1, .ref hm]) := by
    intro S t0 t1 hbt0 hbt1 H locs ls hw hP hD hS hl
    dsimp only [wpJ_M_scrap_27] at hw
    refine lv_iconst (v := 0) hx hb dM_scrap_27 (by decide) ?_
    refine lv_iconst (v := 0) hx hb dM_scrap_28 (by decide) ?_
    refine gk_z (wr := []) (wc := MW cI cL cZ hm am S) (wfc := MW cI cL cZ hm am) hP hD hS hA (va_runV (As := [.int t1, .int t0, .int 0, .int 0]) (rest := []) C (c_M_throwing l hl9 D cI cL cZ hm am _ t1 t0 0 0 S hw H.size) (cwV 4 hts (gGV (by decide +kernel) kM_throwing) rfl rfl rfl (by decide +kernel) ⟨Nat.le_of_ble_eq_true rfl, Nat.le_of_ble_eq_true rfl⟩) (g_preV (wr := []) (wc := MW cI cL cZ hm am S) (ci := 2) hK hG hA hP hD hS rfl (MWc_0 cI cL cZ hm am S) rfl) rfl rfl hl.1 rfl (lv_room (Nat.le_of_ble_eq_true rfl)) dM_scrap_29 ⟨Nat.le_of_ble_eq_true rfl, Nat.le_of_ble_eq_true rfl⟩) (fun r2 S1 hbr2 H locs hw hP hD hS => ?_)
    have hP : va_P D vwCl (MW cI cL cZ hm am S1) H := hP
    have hD : va_D A (MW cI cL cZ hm am S1) := hD
    refine lv_if_eq (tgt := 37) hx hb dM_scrap_32 (by decide) (fun c3 => ?_) (fun c3 => ?_)
    · have hw := hw.1 c3
      refine lv_aload_n hx hb dM_scrap_37 rfl (lv_at hl 0 rfl) ?_
      refine va_get (ci := 2) (v := .ref (am 3)) (C := RM9) (T := TM9) (N := 24) hx hb hts iM9 hown hK hP 0 (MWc_0 cI cL cZ hm am S1) rfl 5 (by decide) (hto (.fieldLink RM9 19 "PieceTraceModel" "state" "[I") (by decide +kernel)) (fun _ h9 => h9) rfl dM_scrap_38 ?_
      refine lv_iload_n hx hb dM_scrap_41 rfl (lv_at hl 1 rfl) ?_
      refine lv_iconst (v := 2) hx hb dM_scrap_42 (by decide) ?_
      obtain ⟨hi4, hw⟩ := hw
      refine g_iast (wf := MW cI cL cZ hm am) (S' := muSt S1 p0 2) hx hb hK hP hD hS 4 0 (MWc_4 cI cL cZ hm am S1) rfl rfl hi4 dM_scrap_43 (fun S5 eS5 H locs hP hD hS => ?_)
      have hw := hw S5 eS5
      refine lv_aload_n hx hb dM_scrap_44 rfl (lv_at hl 0 rfl) ?_
      refine lv_dup hx hb dM_scrap_45 rfl ?_
      refine va_get (ci := 2) (v := .int (mhp S5)) (C := RM9) (T := TM9) (N := 24) hx hb hts iM9 hown hK hP 0 (MWc_0 cI cL cZ hm am S5) rfl 13 (by decide) (hto (.fieldLink RM9 94 "PieceTraceModel" "heap" "I") (by decide +kernel)) (fun _ h9 => h9) rfl dM_scrap_46 ?_
      refine lv_aload_n hx hb dM_scrap_49 rfl (lv_at hl 0 rfl) ?_
      refine va_get (ci := 2) (v := .ref (am 1)) (C := RM9) (T := TM9) (N := 24) hx hb hts iM9 hown hK hP 0 (MWc_0 cI cL cZ hm am S5) rfl 3 (by decide) (hto (.fieldLink RM9 13 "PieceTraceModel" "weight" "[I") (by decide +kernel)) (fun _ h9 => h9) rfl dM_scrap_50 ?_
      refine lv_iload_n hx hb dM_scrap_53 rfl (lv_at hl 1 rfl) ?_
      obtain ⟨hi6, hw⟩ := hw
      refine va_iald (f := (mWe S5)) hx hb hK hP 2 0 (MWc_2 cI cL cZ hm am S5) rfl hi6 dM_scrap_54 ?_
      refine lv_iadd hx hb dM_scrap_55 ?_
      refine g_put (wf := MW cI cL cZ hm am) (S' := mshp S5 ((mhp S5) + (mWe S5 p0.toNatClampNeg))) (ci := 2) (v := .int ((mhp S5) + (mWe S5 p0.toNatClampNeg))) (ty := .int) (C := RM9) (T := TM9) (N := 24) hx hb hts iM9 tyM9 tyM9_ok nmM9 hown hK hP hD hS 0 (MWc_0 cI cL cZ hm am S5) rfl 13 (by decide) (hto (.fieldLink RM9 94 "PieceTraceModel" "heap" "I") (by decide +kernel)) (fun _ h9 => h9) rfl (by decide +kernel) rfl rfl (Nat.le_of_ble_eq_true rfl) rfl dM_scrap_56 (fun S7 eS7 H locs hP hD hS => ?_)
      have hw := hw S7 eS7
      refine lv_aload_n hx hb dM_scrap_59 rfl (lv_at hl 0 rfl) ?_
      refine va_get (ci := 2) (v := .int (mhp S7)) (C := RM9) (T := TM9) (N := 24) hx hb hts iM9 hown hK hP 0 (MWc_0 cI cL cZ hm am S7) rfl 13 (by decide) (hto (.fieldLink RM9 94 "PieceTraceModel" "heap" "I") (by decide +kernel)) (fun _ h9 => h9) rfl dM_scrap_60 ?_
      exact gr_i hx hb hr hlocks hK hP hD hS hw (Nat.le_of_ble_eq_true rfl) (Nat.le_of_ble_eq_true rfl) dM_scrap_63
    · have hw := hw.2 c3
      refine lv_iconst (v := 0) hx hb dM_scrap_35 (by decide) ?_
      exact gr_i hx hb hr hlocks hK hP hD hS hw (Nat.le_of_ble_eq_true rfl) (Nat.le_of_ble_eq_true rfl) dM_scrap_36
  have hJ14 : ∀ (S : MSt) (t0 : Int32), (t0 = 0 ∨ t0 = 1) → ∀ (H : Heap) (locs : List Loc) (ls : Array Slot), wpJ_M_scrap_14 post p0 S t0 → va_P D vwCl (MW cI cL cZ hm am S) H → va_D A (MW cI cL cZ hm am S) → va_S A s.heap H locs → lv_has ls 2 [(0, .ref hm), (1, .int p0)] → W p l e (headSpec wsM_scrap { frames := 3, cells := 0, slots := 0, locals := 64 }).room s m ([.ref hm, .int p0] : List Value).toArray below meth c H locs 0 0 (MQ below (gQi D [(cI, .int), (cL, .long), (cZ, .boolean)] (MW cI cL cZ hm am) post A) ([.ref hm, .int p0] : List Value).toArray s 0 0 A) (F0 m 14 ls [.int t0, .ref hm]) := by
    intro S t0 hbt0 H locs ls hw hP hD hS hl
    dsimp only [wpJ_M_scrap_14] at hw
    refine lv_aload_n hx hb dM_scrap_14 rfl (lv_at hl 0 rfl) ?_
    refine lv_iload_n hx hb dM_scrap_15 rfl (lv_at hl 1 rfl) ?_
    refine gk_z (wr := []) (wc := MW cI cL cZ hm am S) (wfc := MW cI cL cZ hm am) hP hD hS hA (va_runV (As := [.int p0]) (rest := [.int t0, .ref hm]) C (c_M_isAtHand l hl9 D cI cL cZ hm am _ p0 S hw H.size) (cwV 1 hts (gGV (by decide +kernel) kM_isAtHand) rfl rfl rfl (by decide +kernel) ⟨Nat.le_of_ble_eq_true rfl, Nat.le_of_ble_eq_true rfl⟩) (g_preV (wr := []) (wc := MW cI cL cZ hm am S) (ci := 2) hK hG hA hP hD hS rfl (MWc_0 cI cL cZ hm am S) rfl) rfl rfl hl.1 rfl (lv_room (Nat.le_of_ble_eq_true rfl)) dM_scrap_16 ⟨Nat.le_of_ble_eq_true rfl, Nat.le_of_ble_eq_true rfl⟩) (fun r9 S8 hbr9 H locs hw hP hD hS => ?_)
    have hP : va_P D vwCl (MW cI cL cZ hm am S8) H := hP
    have hD : va_D A (MW cI cL cZ hm am S8) := hD
    refine lv_if_ne (tgt := 26) hx hb dM_scrap_19 (by decide) (fun c10 => ?_) (fun c10 => ?_)
    · have hw := hw.2 c10
      refine lv_iconst (v := 0) hx hb dM_scrap_26 (by decide) ?_
      exact hJ27 S8 0 t0  (Or.inl rfl) hbt0 H locs ls hw hP hD hS (lv_sub hl [0, 1] rfl)
    · have hw := hw.1 c10
      refine lv_iconst (v := 1) hx hb dM_scrap_22 (by decide) ?_
      refine lv_goto (tgt := 27) hx hb dM_scrap_23 (by decide) ?_
      exact hJ27 S8 1 t0  (Or.inr rfl) hbt0 H locs ls hw hP hD hS (lv_sub hl [0, 1] rfl)
  dsimp only [wp_M_scrap] at hw
  refine lv_aload_n hx hb dM_scrap_0 rfl (lv_at hl 0 rfl) ?_
  refine lv_aload_n hx hb dM_scrap_1 rfl (lv_at hl 0 rfl) ?_
  refine lv_iload_n hx hb dM_scrap_2 rfl (lv_at hl 1 rfl) ?_
  refine gk_z (wr := []) (wc := MW cI cL cZ hm am S) (wfc := MW cI cL cZ hm am) hP hD hS hA (va_runV (As := [.int p0]) (rest := [.ref hm]) C (c_M_isPiece l hl9 D cI cL cZ hm am _ p0 S hw H.size) (cwV 1 hts (gGV (by decide +kernel) kM_isPiece) rfl rfl rfl (by decide +kernel) ⟨Nat.le_of_ble_eq_true rfl, Nat.le_of_ble_eq_true rfl⟩) (g_preV (wr := []) (wc := MW cI cL cZ hm am S) (ci := 2) hK hG hA hP hD hS rfl (MWc_0 cI cL cZ hm am S) rfl) rfl rfl hl.1 rfl (lv_room (Nat.le_of_ble_eq_true rfl)) dM_scrap_3 ⟨Nat.le_of_ble_eq_true rfl, Nat.le_of_ble_eq_true rfl⟩) (fun r12 S11 hbr12 H locs hw hP hD hS => ?_)
  have hP : va_P D vwCl (MW cI cL cZ hm am S11) H := hP
  have hD : va_D A (MW cI cL cZ hm am S11) := hD
  refine lv_if_ne (tgt := 13) hx hb dM_scrap_6 (by decide) (fun c13 => ?_) (fun c13 => ?_)
  · have hw := hw.2 c13
    refine lv_iconst (v := 0) hx hb dM_scrap_13 (by decide) ?_
    exact hJ14 S11 0  (Or.inl rfl) H locs ls hw hP hD hS (lv_sub hl [0, 1] rfl)
  · have hw := hw.1 c13
    refine lv_iconst (v := 1) hx hb dM_scrap_9 (by decide) ?_
    refine lv_goto (tgt := 14) hx hb dM_scrap_10 (by decide) ?_
    exact hJ14 S11 1  (Or.inr rfl) H locs ls hw hP hD hS (lv_sub hl [0, 1] rfl)
def wpJ_M_back_71 (post : Int32 → MSt → Prop) (p0 : Int32) (p1 : Int32) (S : MSt) (u4 : Int32) (t0 : Int32) (t1 : Int32) : Prop := (wp_M_throwing (fun r2 S1 => ((r2 = 0 → (∀ S4 : MSt, S4 = mshp S1 ((mhp S1) - u4) → (wp_M_add (fun r6 S5 => (post r6 S5)) 0 (-1) u4 p1 S4))) ∧ (¬ r2 = 0 → (post 0 S1)))) t1 t0 0 0 S)
def wpJ_M_back_66 (post : Int32 → MSt → Prop) (p0 : Int32) (p1 : Int32) (S : MSt) (u4 : Int32) (t0 : Int32) : Prop := (wpJ_M_back_71 post p0 p1 S u4 1 t0)
def wpJ_M_back_47 (post : Int32 → MSt → Prop) (p0 : Int32) (p1 : Int32) (S : MSt) (u3 : Int32) (t0 : Int32) : Prop := ((t0 < 1 → (wpJ_M_back_66 post p0 p1 S t0 u3)) ∧ (¬ t0 < 1 → (((mpc S) = 40 → (wpJ_M_back_66 post p0 p1 S t0 u3)) ∧ (¬ (mpc S) = 40 → (wpJ_M_back_71 post p0 p1 S t0 0 u3)))))
def wpJ_M_back_25 (post : Int32 → MSt → Prop) (p0 : Int32) (p1 : Int32) (S : MSt) (t0 : Int32) : Prop := ((t0 = 0 → (wpJ_M_back_47 post p0 p1 S t0 ((((mhp S).toInt64 * p0.toInt64) / 100).toInt32))) ∧ (¬ t0 = 0 → (wpJ_M_back_47 post p0 p1 S t0 1)))
def wpJ_M_back_20 (post : Int32 → MSt → Prop) (p0 : Int32) (p1 : Int32) (S : MSt)  : Prop := (wpJ_M_back_25 post p0 p1 S 1)
def wp_M_back (post : Int32 → MSt → Prop) (p0 : Int32) (p1 : Int32) (S : MSt) : Prop := (wp_M_in (fun r11 S10 => ((r11 = 0 → (wpJ_M_back_20 post p0 p1 S10 )) ∧ (¬ r11 = 0 → (wp_M_in (fun r14 S13 => ((r14 = 0 → (wpJ_M_back_20 post p0 p1 S13 )) ∧ (¬ r14 = 0 → (wpJ_M_back_25 post p0 p1 S13 0)))) p1 1 1000000 S10)))) p0 1 100 S)
set_option maxHeartbeats 4000000 in
set_option maxRecDepth 100000 in
theorem c_M_back (l : Launch) (hl9 : l.stackTraces = false) (D : va_G) (cI cL cZ : ClassId) (hm : Nat) (am : Nat → Nat) (post : Int32 → MSt → Prop) (p0 : Int32) (p1 : Int32) (S : MSt) (hw : wp_M_back post p0 p1 S) : gMi l yM_back wsM_back ({ frames := 1, cells := 0, slots := 0, locals := 24 }) D [(cI, .int), (cL, .long), (cZ, .boolean)] [.ref hm, .int p0, .int p1] (MW cI cL cZ hm am S) (MW cI cL cZ hm am) post := by
  refine g_ofMi (cc := cM_back) (maxL := 5) (ret := (some .int)) (own := RM9) (by decide) rfl rfl (Nat.le_of_ble_eq_true rfl) ?_
  intro p e s m below meth c A H locs ls C hr hlocks hK hG hA hP hD hS hl
  obtain ⟨hx, hb, hml, hown, hts⟩ := id C
  have hts := fun w (h9 : w ∈ gW) => hts w (List.mem_cons_of_mem _ h9)
  have hto := fun w (h9 : w ∈ gWo) => hts w (gWo_in w h9)
  have hl : lv_has ls 5 [(0, .ref hm), (1, .int p0), (2, .int p1)] := hl
  have hJ71 : ∀ (S : MSt) (u4 : Int32) (t0 : Int32) (t1 : Int32), (t0 = 0 ∨ t0 = 1) → (t1 = 0 ∨ t1 = 1) → ∀ (H : Heap) (locs : List Loc) (ls : Array Slot), wpJ_M_back_71 post p0 p1 S u4 t0 t1 → va_P D vwCl (MW cI cL cZ hm am S) H → va_D A (MW cI cL cZ hm am S) → va_S A s.heap H locs → lv_has ls 5 [(4, .int u4), (0, .ref hm), (2, .int p1)] → W p l e (headSpec wsM_back { frames := 1, cells := 0, slots := 0, locals := 24 }).room s m ([.ref hm, .int p0, .int p1] : List Value).toArray below meth c H locs 0 0 (MQ below (gQi D [(cI, .int), (cL, .long), (cZ, .boolean)] (MW cI cL cZ hm am) post A) ([.ref hm, .int p0, .int p1] : List Value).toArray s 0 0 A) (F0 m 71 ls [.int t0, .int t1, .ref hm]) := by
    intro S u4 t0 t1 hbt0 hbt1 H locs ls hw hP hD hS hl
    dsimp only [wpJ_M_back_71] at hw
    refine lv_iconst (v := 0) hx hb dM_back_71 (by decide) ?_
    refine lv_iconst (v := 0) hx hb dM_back_72 (by decide) ?_
    refine gk_z (wr := []) (wc := MW cI cL cZ hm am S) (wfc := MW cI cL cZ hm am) hP hD hS hA (va_runV (As := [.int t1, .int t0, .int 0, .int 0]) (rest := []) C (c_M_throwing l hl9 D cI cL cZ hm am _ t1 t0 0 0 S hw H.size) (cwV 4 hts (gGV (by decide +kernel) kM_throwing) rfl rfl rfl (by decide +kernel) ⟨Nat.le_of_ble_eq_true rfl, Nat.le_of_ble_eq_true rfl⟩) (g_preV (wr := []) (wc := MW cI cL cZ hm am S) (ci := 2) hK hG hA hP hD hS rfl (MWc_0 cI cL cZ hm am S) rfl) rfl rfl hl.1 rfl (lv_room (Nat.le_of_ble_eq_true rfl)) dM_back_73 ⟨Nat.le_of_ble_eq_true rfl, Nat.le_of_ble_eq_true rfl⟩) (fun r2 S1 hbr2 H locs hw hP hD hS => ?_)
    have hP : va_P D vwCl (MW cI cL cZ hm am S1) H := hP
    have hD : va_D A (MW cI cL cZ hm am S1) := hD
    refine lv_if_eq (tgt := 81) hx hb dM_back_76 (by decide) (fun c3 => ?_) (fun c3 => ?_)
    · have hw := hw.1 c3
      refine lv_aload_n hx hb dM_back_81 rfl (lv_at hl 1 rfl) ?_
      refine lv_dup hx hb dM_back_82 rfl ?_
      refine va_get (ci := 2) (v := .int (mhp S1)) (C := RM9) (T := TM9) (N := 24) hx hb hts iM9 hown hK hP 0 (MWc_0 cI cL cZ hm am S1) rfl 13 (by decide) (hto (.fieldLink RM9 94 "PieceTraceModel" "heap" "I") (by decide +kernel)) (fun _ h9 => h9) rfl dM_back_83 ?_
      refine lv_iload hx hb dM_back_86 (lv_at hl 0 rfl) ?_
      refine lv_isub hx hb dM_back_88 ?_
      refine g_put (wf := MW cI cL cZ hm am) (S' := mshp S1 ((mhp S1) - u4)) (ci := 2) (v := .int ((mhp S1) - u4)) (ty := .int) (C := RM9) (T := TM9) (N := 24) hx hb hts iM9 tyM9 tyM9_ok nmM9 hown hK hP hD hS 0 (MWc_0 cI cL cZ hm am S1) rfl 13 (by decide) (hto (.fieldLink RM9 94 "PieceTraceModel" "heap" "I") (by decide +kernel)) (fun _ h9 => h9) rfl (by decide +kernel) rfl rfl (Nat.le_of_ble_eq_true rfl) rfl dM_back_89 (fun S4 eS4 H locs hP hD hS => ?_)
      have hw := hw S4 eS4
      refine lv_aload_n hx hb dM_back_92 rfl (lv_at hl 1 rfl) ?_
      refine lv_iconst (v := 0) hx hb dM_back_93 (by decide) ?_
      refine lv_iconst (v := -1) hx hb dM_back_94 (by decide) ?_
      refine lv_iload hx hb dM_back_95 (lv_at hl 0 rfl) ?_
      refine lv_iload_n hx hb dM_back_97 rfl (lv_at hl 2 rfl) ?_
      refine gk_i (wr := []) (wc := MW cI cL cZ hm am S4) (wfc := MW cI cL cZ hm am) hP hD hS hA (va_runV (As := [.int 0, .int (-1), .int u4, .int p1]) (rest := []) C (c_M_add l hl9 D cI cL cZ hm am _ 0 (-1) u4 p1 S4 hw H.size) (cwV 4 hts (gGV (by decide +kernel) kM_add) rfl rfl rfl (by decide +kernel) ⟨Nat.le_of_ble_eq_true rfl, Nat.le_of_ble_eq_true rfl⟩) (g_preV (wr := []) (wc := MW cI cL cZ hm am S4) (ci := 2) hK hG hA hP hD hS rfl (MWc_0 cI cL cZ hm am S4) rfl) rfl rfl hl.1 rfl (lv_room (Nat.le_of_ble_eq_true rfl)) dM_back_98 ⟨Nat.le_of_ble_eq_true rfl, Nat.le_of_ble_eq_true rfl⟩) (fun r6 S5 H locs hw hP hD hS => ?_)
      have hP : va_P D vwCl (MW cI cL cZ hm am S5) H := hP
      have hD : va_D A (MW cI cL cZ hm am S5) := hD
      exact gr_i hx hb hr hlocks hK hP hD hS hw (Nat.le_of_ble_eq_true rfl) (Nat.le_of_ble_eq_true rfl) dM_back_101
    · have hw := hw.2 c3
      refine lv_iconst (v := 0) hx hb dM_back_79 (by decide) ?_
      exact gr_i hx hb hr hlocks hK hP hD hS hw (Nat.le_of_ble_eq_true rfl) (Nat.le_of_ble_eq_true rfl) dM_back_80
  have hJ66 : ∀ (S : MSt) (u4 : Int32) (t0 : Int32), (t0 = 0 ∨ t0 = 1) → ∀ (H : Heap) (locs : List Loc) (ls : Array Slot), wpJ_M_back_66 post p0 p1 S u4 t0 → va_P D vwCl (MW cI cL cZ hm am S) H → va_D A (MW cI cL cZ hm am S) → va_S A s.heap H locs → lv_has ls 5 [(4, .int u4), (0, .ref hm), (2, .int p1)] → W p l e (headSpec wsM_back { frames := 1, cells := 0, slots := 0, locals := 24 }).room s m ([.ref hm, .int p0, .int p1] : List Value).toArray below meth c H locs 0 0 (MQ below (gQi D [(cI, .int), (cL, .long), (cZ, .boolean)] (MW cI cL cZ hm am) post A) ([.ref hm, .int p0, .int p1] : List Value).toArray s 0 0 A) (F0 m 66 ls [.int t0, .ref hm]) := by
    intro S u4 t0 hbt0 H locs ls hw hP hD hS hl
    dsimp only [wpJ_M_back_66] at hw
    refine lv_iconst (v := 1) hx hb dM_back_66 (by decide) ?_
    refine lv_goto (tgt := 71) hx hb dM_back_67 (by decide) ?_
    exact hJ71 S u4 1 t0  (Or.inr rfl) hbt0 H locs ls hw hP hD hS (lv_sub hl [0, 1, 2] rfl)
  have hJ47 : ∀ (S : MSt) (u3 : Int32) (t0 : Int32), (u3 = 0 ∨ u3 = 1) → ∀ (H : Heap) (locs : List Loc) (ls : Array Slot), wpJ_M_back_47 post p0 p1 S u3 t0 → va_P D vwCl (MW cI cL cZ hm am S) H → va_D A (MW cI cL cZ hm am S) → va_S A s.heap H locs → lv_has ls 5 [(3, .int u3), (0, .ref hm), (2, .int p1)] → W p l e (headSpec wsM_back { frames := 1, cells := 0, slots := 0, locals := 24 }).room s m ([.ref hm, .int p0, .int p1] : List Value).toArray below meth c H locs 0 0 (MQ below (gQi D [(cI, .int), (cL, .long), (cZ, .boolean)] (MW cI cL cZ hm am) post A) ([.ref hm, .int p0, .int p1] : List Value).toArray s 0 0 A) (F0 m 47 ls [.int t0]) := by
    intro S u3 t0 hbu3 H locs ls hw hP hD hS hl
    dsimp only [wpJ_M_back_47] at hw
    refine lv_istore (lv' := [(4, .int t0), (3, .int u3), (0, .ref hm), (2, .int p1)]) hx hb dM_back_47 hl (by decide) rfl (fun ls hl => ?_)
    refine lv_aload_n hx hb dM_back_49 rfl (lv_at hl 2 rfl) ?_
    refine lv_iload_n hx hb dM_back_50 rfl (lv_at hl 1 rfl) ?_
    refine lv_iload hx hb dM_back_51 (lv_at hl 0 rfl) ?_
    refine lv_iconst (v := 1) hx hb dM_back_53 (by decide) ?_
    refine lv_icmp_lt (tgt := 66) hx hb dM_back_54 (by decide) (fun c7 => ?_) (fun c7 => ?_)
    · have hw := hw.1 c7
      exact hJ66 S t0 u3  hbu3 H locs ls hw hP hD hS (lv_sub hl [0, 2, 3] rfl)
    · have hw := hw.2 c7
      refine lv_aload_n hx hb dM_back_57 rfl (lv_at hl 2 rfl) ?_
      refine va_get (ci := 2) (v := .int (mpc S)) (C := RM9) (T := TM9) (N := 24) hx hb hts iM9 hown hK hP 0 (MWc_0 cI cL cZ hm am S) rfl 1 (by decide) (hto (.fieldLink RM9 64 "PieceTraceModel" "pieces" "I") (by decide +kernel)) (fun _ h9 => h9) rfl dM_back_58 ?_
      refine lv_bipush (v := 40) hx hb dM_back_61 (by decide) ?_
      refine lv_icmp_ne (tgt := 70) hx hb dM_back_63 (by decide) (fun c8 => ?_) (fun c8 => ?_)
      · have hw := hw.2 c8
        refine lv_iconst (v := 0) hx hb dM_back_70 (by decide) ?_
        exact hJ71 S t0 0 u3  (Or.inl rfl) hbu3 H locs ls hw hP hD hS (lv_sub hl [0, 2, 3] rfl)
      · have hw := hw.1 c8
        exact hJ66 S t0 u3  hbu3 H locs ls hw hP hD hS (lv_sub hl [0, 2, 3] rfl)
  have hJ25 : ∀ (S : MSt) (t0 : Int32), (t0 = 0 ∨ t0 = 1) → ∀ (H : Heap) (locs : List Loc) (ls : Array Slot), wpJ_M_back_25 post p0 p1 S t0 → va_P D vwCl (MW cI cL cZ hm am S) H → va_D A (MW cI cL cZ hm am S) → va_S A s.heap H locs → lv_has ls 5 [(0, .ref hm), (1, .int p0), (2, .int p1)] → W p l e (headSpec wsM_back { frames := 1, cells := 0, slots := 0, locals := 24 }).room s m ([.ref hm, .int p0, .int p1] : List Value).toArray below meth c H locs 0 0 (MQ below (gQi D [(cI, .int), (cL, .long), (cZ, .boolean)] (MW cI cL cZ hm am) post A) ([.ref hm, .int p0, .int p1] : List Value).toArray s 0 0 A) (F0 m 25 ls [.int t0]) := by
    intro S t0 hbt0 H locs ls hw hP hD hS hl
    dsimp only [wpJ_M_back_25] at hw
    refine lv_istore_n (lv' := [(3, .int t0), (0, .ref hm), (1, .int p0), (2, .int p1)]) hx hb dM_back_25 rfl hl (by decide) rfl (fun ls hl => ?_)
    refine lv_iload_n hx hb dM_back_26 rfl (lv_at hl 0 rfl) ?_
    refine lv_if_eq (tgt := 34) hx hb dM_back_27 (by decide) (fun c9 => ?_) (fun c9 => ?_)
    · have hw := hw.1 c9
      refine lv_aload_n hx hb dM_back_34 rfl (lv_at hl 1 rfl) ?_
      refine va_get (ci := 2) (v := .int (mhp S)) (C := RM9) (T := TM9) (N := 24) hx hb hts iM9 hown hK hP 0 (MWc_0 cI cL cZ hm am S) rfl 13 (by decide) (hto (.fieldLink RM9 94 "PieceTraceModel" "heap" "I") (by decide +kernel)) (fun _ h9 => h9) rfl dM_back_35 ?_
      refine lv_i2l (v := (mhp S).toInt64) hx hb dM_back_38 rfl ?_
      refine lv_iload_n hx hb dM_back_39 rfl (lv_at hl 2 rfl) ?_
      refine lv_i2l (v := p0.toInt64) hx hb dM_back_40 rfl ?_
      refine lv_lmul hx hb dM_back_41 ?_
      refine lv_ldc2 (v := 100) hx hb hown (hto (.constantLong RM9 97 100) (by decide +kernel)) dM_back_42 ?_
      refine lv_ldiv hx hb dM_back_45 (by decide) ?_
      refine lv_l2i (v := (((mhp S).toInt64 * p0.toInt64) / 100).toInt32) hx hb dM_back_46 rfl ?_
      exact hJ47 S t0 ((((mhp S).toInt64 * p0.toInt64) / 100).toInt32) hbt0  H locs ls hw hP hD hS (lv_sub hl [0, 1, 3] rfl)
    · have hw := hw.2 c9
      refine lv_iconst (v := 1) hx hb dM_back_30 (by decide) ?_
      refine lv_goto (tgt := 47) hx hb dM_back_31 (by decide) ?_
      exact hJ47 S t0 1 hbt0  H locs ls hw hP hD hS (lv_sub hl [0, 1, 3] rfl)
  have hJ20 : ∀ (S : MSt) , ∀ (H : Heap) (locs : List Loc) (ls : Array Slot), wpJ_M_back_20 post p0 p1 S  → va_P D vwCl (MW cI cL cZ hm am S) H → va_D A (MW cI cL cZ hm am S) → va_S A s.heap H locs → lv_has ls 5 [(0, .ref hm), (1, .int p0), (2, .int p1)] → W p l e (headSpec wsM_back { frames := 1, cells := 0, slots := 0, locals := 24 }).room s m ([.ref hm, .int p0, .int p1] : List Value).toArray below meth c H locs 0 0 (MQ below (gQi D [(cI, .int), (cL, .long), (cZ, .boolean)] (MW cI cL cZ hm am) post A) ([.ref hm, .int p0, .int p1] : List Value).toArray s 0 0 A) (F0 m 20 ls []) := by
    intro S   H locs ls hw hP hD hS hl
    dsimp only [wpJ_M_back_20] at hw
    refine lv_iconst (v := 1) hx hb dM_back_20 (by decide) ?_
    refine lv_goto (tgt := 25) hx hb dM_back_21 (by decide) ?_
    exact hJ25 S 1  (Or.inr rfl) H locs ls hw hP hD hS (lv_sub hl [0, 1, 2] rfl)
  dsimp only [wp_M_back] at hw
  refine lv_iload_n hx hb dM_back_0 rfl (lv_at hl 1 rfl) ?_
  refine lv_iconst (v := 1) hx hb dM_back_1 (by decide) ?_
  refine lv_bipush (v := 100) hx hb dM_back_2 (by decide) ?_
  refine gk_z (wr := []) (wc := MW cI cL cZ hm am S) (wfc := MW cI cL cZ hm am) hP hD hS hA (va_runS (As := [.int p0, .int 1, .int 100]) (rest := []) C (c_M_in l hl9 D cI cL cZ hm am _ p0 1 100 S hw H.size) (va_cwS 3 hts (gGS (by decide +kernel) kM_in) rfl rfl rfl (by decide +kernel) ⟨Nat.le_of_ble_eq_true rfl, Nat.le_of_ble_eq_true rfl⟩) (g_preS (wr := []) (wc := MW cI cL cZ hm am S) hK hG hA hP hD hS) rfl rfl hl.1 rfl (lv_room (Nat.le_of_ble_eq_true rfl)) dM_back_4 ⟨Nat.le_of_ble_eq_true rfl, Nat.le_of_ble_eq_true rfl⟩) (fun r11 S10 hbr11 H locs hw hP hD hS => ?_)
  have hP : va_P D vwCl (MW cI cL cZ hm am S10) H := hP
  have hD : va_D A (MW cI cL cZ hm am S10) := hD
  refine lv_if_eq (tgt := 20) hx hb dM_back_7 (by decide) (fun c12 => ?_) (fun c12 => ?_)
  · have hw := hw.1 c12
    exact hJ20 S10    H locs ls hw hP hD hS (lv_sub hl [0, 1, 2] rfl)
  · have hw := hw.2 c12
    refine lv_iload_n hx hb dM_back_10 rfl (lv_at hl 2 rfl) ?_
    refine lv_iconst (v := 1) hx hb dM_back_11 (by decide) ?_
    refine lv_ldc (v := 1000000) hx hb hown (hto (.constant RM9 75 1000000) (by decide +kernel)) dM_back_12 ?_
    refine gk_z (wr := []) (wc := MW cI cL cZ hm am S10) (wfc := MW cI cL cZ hm am) hP hD hS hA (va_runS (As := [.int p1, .int 1, .int 1000000]) (rest := []) C (c_M_in l hl9 D cI cL cZ hm am _ p1 1 1000000 S10 hw H.size) (va_cwS 3 hts (gGS (by decide +kernel) kM_in) rfl rfl rfl (by decide +kernel) ⟨Nat.le_of_ble_eq_true rfl, Nat.le_of_ble_eq_true rfl⟩) (g_preS (wr := []) (wc := MW cI cL cZ hm am S10) hK hG hA hP hD hS) rfl rfl hl.1 rfl (lv_room (Nat.le_of_ble_eq_true rfl)) dM_back_14 ⟨Nat.le_of_ble_eq_true rfl, Nat.le_of_ble_eq_true rfl⟩) (fun r14 S13 hbr14 H locs hw hP hD hS => ?_)
    have hP : va_P D vwCl (MW cI cL cZ hm am S13) H := hP
    have hD : va_D A (MW cI cL cZ hm am S13) := hD
    refine lv_if_ne (tgt := 24) hx hb dM_back_17 (by decide) (fun c15 => ?_) (fun c15 => ?_)
    · have hw := hw.2 c15
      refine lv_iconst (v := 0) hx hb dM_back_24 (by decide) ?_
      exact hJ25 S13 0  (Or.inl rfl) H locs ls hw hP hD hS (lv_sub hl [0, 1, 2] rfl)
    · have hw := hw.1 c15
      exact hJ20 S13    H locs ls hw hP hD hS (lv_sub hl [0, 1, 2] rfl)
def wpJ_M_at_130 (post : Int32 → MSt → Prop) (p0 : Int32) (p1 : Int32) (S : MSt) (t0 : Int32) : Prop := (post t0 S)
def wpJ_M_at_73 (post : Int32 → MSt → Prop) (p0 : Int32) (p1 : Int32) (S : MSt) (t0 : Int32) : Prop := (post t0 S)
def wpJ_M_at_24 (post : Int32 → MSt → Prop) (p0 : Int32) (p1 : Int32) (S : MSt) (t0 : Int32) : Prop := (wp_M_throwing (fun r2 S1 => ((r2 = 0 → ((3 ≤ p1 → ((p1 = 3 → (vp_in p0 40 ∧ (((mHe S1 p0.toNatClampNeg) = 0 → (wpJ_M_at_130 post p0 p1 S1 0)) ∧ (¬ (mHe S1 p0.toNatClampNeg) = 0 → (wpJ_M_at_130 post p0 p1 S1 1))))) ∧ (¬ p1 = 3 → ((p1 = 4 → (vp_in p0 40 ∧ (wpJ_M_at_130 post p0 p1 S1 (mOf S1 p0.toNatClampNeg)))) ∧ (¬ p1 = 4 → ((p1 = 5 → (vp_in p0 40 ∧ (wpJ_M_at_130 post p0 p1 S1 (mOt S1 p0.toNatClampNeg)))) ∧ (¬ p1 = 5 → (vp_in p0 40 ∧ (wpJ_M_at_130 post p0 p1 S1 (mRo S1 p0.toNatClampNeg)))))))))) ∧ (¬ 3 ≤ p1 → ((p1 = 0 → (vp_in p0 40 ∧ (wpJ_M_at_73 post p0 p1 S1 (mWe S1 p0.toNatClampNeg)))) ∧ (¬ p1 = 0 → ((p1 = 1 → (vp_in p0 40 ∧ (wpJ_M_at_73 post p0 p1 S1 (mLe S1 p0.toNatClampNeg)))) ∧ (¬ p1 = 1 → (vp_in p0 40 ∧ (wpJ_M_at_73 post p0 p1 S1 (mSt S1 p0.toNatClampNeg)))))))))) ∧ (¬ r2 = 0 → (post 0 S1)))) t0 0 0 0 S)
def wpJ_M_at_19 (post : Int32 → MSt → Prop) (p0 : Int32) (p1 : Int32) (S : MSt)  : Prop := (wpJ_M_at_24 post p0 p1 S 1)
def wp_M_at (post : Int32 → MSt → Prop) (p0 : Int32) (p1 : Int32) (S : MSt) : Prop := (wp_M_isPiece (fun r19 S18 => ((r19 = 0 → (wpJ_M_at_19 post p0 p1 S18 )) ∧ (¬ r19 = 0 → (wp_M_in (fun r22 S21 => ((r22 = 0 → (wpJ_M_at_19 post p0 p1 S21 )) ∧ (¬ r22 = 0 → (wpJ_M_at_24 post p0 p1 S21 0)))) p1 0 6 S18)))) p0 S)
set_option maxHeartbeats 4000000 in
set_option maxRecDepth 100000 in
theorem c_M_at (l : Launch) (hl9 : l.stackTraces = false) (D : va_G) (cI cL cZ : ClassId) (hm : Nat) (am : Nat → Nat) (post : Int32 → MSt → Prop) (p0 : Int32) (p1 : Int32) (S : MSt) (hw : wp_M_at post p0 p1 S) : gMi l yM_at wsM_at ({ frames := 2, cells := 0, slots := 0, locals := 43 }) D [(cI, .int), (cL, .long), (cZ, .boolean)] [.ref hm, .int p0, .int p1] (MW cI cL cZ hm am S) (MW cI cL cZ hm am) post := by
  refine g_ofMi (cc := cM_at) (maxL := 3) (ret := (some .int)) (own := RM9) (by decide) rfl rfl (Nat.le_of_ble_eq_true rfl) ?_
  intro p e s m below meth c A H locs ls C hr hlocks hK hG hA hP hD hS hl
  obtain ⟨hx, hb, hml, hown, hts⟩ := id C
  have hts := fun w (h9 : w ∈ gW) => hts w (List.mem_cons_of_mem _ h9)
  have hto := fun w (h9 : w ∈ gWo) => hts w (gWo_in w h9)
  have hl : lv_has ls 3 [(0, .ref hm), (1, .int p0), (2, .int p1)] := hl
  have hJ130 : ∀ (S : MSt) (t0 : Int32), ∀ (H : Heap) (locs : List Loc) (ls : Array Slot), wpJ_M_at_130 post p0 p1 S t0 → va_P D vwCl (MW cI cL cZ hm am S) H → va_D A (MW cI cL cZ hm am S) → va_S A s.heap H locs → lv_has ls 3 [] → W p l e (headSpec wsM_at { frames := 2, cells := 0, slots := 0, locals := 43 }).room s m ([.ref hm, .int p0, .int p1] : List Value).toArray below meth c H locs 0 0 (MQ below (gQi D [(cI, .int), (cL, .long), (cZ, .boolean)] (MW cI cL cZ hm am) post A) ([.ref hm, .int p0, .int p1] : List Value).toArray s 0 0 A) (F0 m 130 ls [.int t0]) := by
    intro S t0  H locs ls hw hP hD hS hl
    dsimp only [wpJ_M_at_130] at hw
    exact gr_i hx hb hr hlocks hK hP hD hS hw (Nat.le_of_ble_eq_true rfl) (Nat.le_of_ble_eq_true rfl) dM_at_130
  have hJ73 : ∀ (S : MSt) (t0 : Int32), ∀ (H : Heap) (locs : List Loc) (ls : Array Slot), wpJ_M_at_73 post p0 p1 S t0 → va_P D vwCl (MW cI cL cZ hm am S) H → va_D A (MW cI cL cZ hm am S) → va_S A s.heap H locs → lv_has ls 3 [] → W p l e (headSpec wsM_at { frames := 2, cells := 0, slots := 0, locals := 43 }).room s m ([.ref hm, .int p0, .int p1] : List Value).toArray below meth c H locs 0 0 (MQ below (gQi D [(cI, .int), (cL, .long), (cZ, .boolean)] (MW cI cL cZ hm am) post A) ([.ref hm, .int p0, .int p1] : List Value).toArray s 0 0 A) (F0 m 73 ls [.int t0]) := by
    intro S t0  H locs ls hw hP hD hS hl
    dsimp only [wpJ_M_at_73] at hw
    exact gr_i hx hb hr hlocks hK hP hD hS hw (Nat.le_of_ble_eq_true rfl) (Nat.le_of_ble_eq_true rfl) dM_at_73
  have hJ24 : ∀ (S : MSt) (t0 : Int32), (t0 = 0 ∨ t0 = 1) → ∀ (H : Heap) (locs : List Loc) (ls : Array Slot), wpJ_M_at_24 post p0 p1 S t0 → va_P D vwCl (MW cI cL cZ hm am S) H → va_D A (MW cI cL cZ hm am S) → va_S A s.heap H locs → lv_has ls 3 [(0, .ref hm), (1, .int p0), (2, .int p1)] → W p l e (headSpec wsM_at { frames := 2, cells := 0, slots := 0, locals := 43 }).room s m ([.ref hm, .int p0, .int p1] : List Value).toArray below meth c H locs 0 0 (MQ below (gQi D [(cI, .int), (cL, .long), (cZ, .boolean)] (MW cI cL cZ hm am) post A) ([.ref hm, .int p0, .int p1] : List Value).toArray s 0 0 A) (F0 m 24 ls [.int t0, .ref hm]) := by
    intro S t0 hbt0 H locs ls hw hP hD hS hl
    dsimp only [wpJ_M_at_24] at hw
    refine lv_iconst (v := 0) hx hb dM_at_24 (by decide) ?_
    refine lv_iconst (v := 0) hx hb dM_at_25 (by decide) ?_
    refine lv_iconst (v := 0) hx hb dM_at_26 (by decide) ?_
    refine gk_z (wr := []) (wc := MW cI cL cZ hm am S) (wfc := MW cI cL cZ hm am) hP hD hS hA (va_runV (As := [.int t0, .int 0, .int 0, .int 0]) (rest := []) C (c_M_throwing l hl9 D cI cL cZ hm am _ t0 0 0 0 S hw H.size) (cwV 4 hts (gGV (by decide +kernel) kM_throwing) rfl rfl rfl (by decide +kernel) ⟨Nat.le_of_ble_eq_true rfl, Nat.le_of_ble_eq_true rfl⟩) (g_preV (wr := []) (wc := MW cI cL cZ hm am S) (ci := 2) hK hG hA hP hD hS rfl (MWc_0 cI cL cZ hm am S) rfl) rfl rfl hl.1 rfl (lv_room (Nat.le_of_ble_eq_true rfl)) dM_at_27 ⟨Nat.le_of_ble_eq_true rfl, Nat.le_of_ble_eq_true rfl⟩) (fun r2 S1 hbr2 H locs hw hP hD hS => ?_)
    have hP : va_P D vwCl (MW cI cL cZ hm am S1) H := hP
    have hD : va_D A (MW cI cL cZ hm am S1) := hD
    refine lv_if_eq (tgt := 35) hx hb dM_at_30 (by decide) (fun c3 => ?_) (fun c3 => ?_)
    · have hw := hw.1 c3
      refine lv_iload_n hx hb dM_at_35 rfl (lv_at hl 2 rfl) ?_
      refine lv_iconst (v := 3) hx hb dM_at_36 (by decide) ?_
      refine lv_icmp_ge (tgt := 74) hx hb dM_at_37 (by decide) (fun c4 => ?_) (fun c4 => ?_)
      · have hw := hw.1 c4
        refine lv_iload_n hx hb dM_at_74 rfl (lv_at hl 2 rfl) ?_
        refine lv_iconst (v := 3) hx hb dM_at_75 (by decide) ?_
        refine lv_icmp_ne (tgt := 96) hx hb dM_at_76 (by decide) (fun c5 => ?_) (fun c5 => ?_)
        · have hw := hw.2 c5
          refine lv_iload_n hx hb dM_at_96 rfl (lv_at hl 2 rfl) ?_
          refine lv_iconst (v := 4) hx hb dM_at_97 (by decide) ?_
          refine lv_icmp_ne (tgt := 110) hx hb dM_at_98 (by decide) (fun c6 => ?_) (fun c6 => ?_)
          · have hw := hw.2 c6
            refine lv_iload_n hx hb dM_at_110 rfl (lv_at hl 2 rfl) ?_
            refine lv_iconst (v := 5) hx hb dM_at_111 (by decide) ?_
            refine lv_icmp_ne (tgt := 124) hx hb dM_at_112 (by decide) (fun c7 => ?_) (fun c7 => ?_)
            · have hw := hw.2 c7
              refine lv_aload_n hx hb dM_at_124 rfl (lv_at hl 0 rfl) ?_
              refine va_get (ci := 2) (v := .ref (am 10)) (C := RM9) (T := TM9) (N := 24) hx hb hts iM9 hown hK hP 0 (MWc_0 cI cL cZ hm am S1) rfl 12 (by decide) (hto (.fieldLink RM9 41 "PieceTraceModel" "rolls" "[I") (by decide +kernel)) (fun _ h9 => h9) rfl dM_at_125 ?_
              refine lv_iload_n hx hb dM_at_128 rfl (lv_at hl 1 rfl) ?_
              obtain ⟨hi8, hw⟩ := hw
              refine va_iald (f := (mRo S1)) hx hb hK hP 11 0 (MWc_11 cI cL cZ hm am S1) rfl hi8 dM_at_129 ?_
              exact hJ130 S1 (mRo S1 p0.toNatClampNeg)   H locs ls hw hP hD hS (lv_sub hl [] rfl)
            · have hw := hw.1 c7
              refine lv_aload_n hx hb dM_at_115 rfl (lv_at hl 0 rfl) ?_
              refine va_get (ci := 2) (v := .ref (am 6)) (C := RM9) (T := TM9) (N := 24) hx hb hts iM9 hown hK hP 0 (MWc_0 cI cL cZ hm am S1) rfl 8 (by decide) (hto (.fieldLink RM9 29 "PieceTraceModel" "other" "[I") (by decide +kernel)) (fun _ h9 => h9) rfl dM_at_116 ?_
              refine lv_iload_n hx hb dM_at_119 rfl (lv_at hl 1 rfl) ?_
              obtain ⟨hi9, hw⟩ := hw
              refine va_iald (f := (mOt S1)) hx hb hK hP 7 0 (MWc_7 cI cL cZ hm am S1) rfl hi9 dM_at_120 ?_
              refine lv_goto (tgt := 130) hx hb dM_at_121 (by decide) ?_
              exact hJ130 S1 (mOt S1 p0.toNatClampNeg)   H locs ls hw hP hD hS (lv_sub hl [] rfl)
          · have hw := hw.1 c6
            refine lv_aload_n hx hb dM_at_101 rfl (lv_at hl 0 rfl) ?_
            refine va_get (ci := 2) (v := .ref (am 5)) (C := RM9) (T := TM9) (N := 24) hx hb hts iM9 hown hK hP 0 (MWc_0 cI cL cZ hm am S1) rfl 7 (by decide) (hto (.fieldLink RM9 26 "PieceTraceModel" "of" "[I") (by decide +kernel)) (fun _ h9 => h9) rfl dM_at_102 ?_
            refine lv_iload_n hx hb dM_at_105 rfl (lv_at hl 1 rfl) ?_
            obtain ⟨hi10, hw⟩ := hw
            refine va_iald (f := (mOf S1)) hx hb hK hP 6 0 (MWc_6 cI cL cZ hm am S1) rfl hi10 dM_at_106 ?_
            refine lv_goto (tgt := 130) hx hb dM_at_107 (by decide) ?_
            exact hJ130 S1 (mOf S1 p0.toNatClampNeg)   H locs ls hw hP hD hS (lv_sub hl [] rfl)
        · have hw := hw.1 c5
          refine lv_aload_n hx hb dM_at_79 rfl (lv_at hl 0 rfl) ?_
          refine va_get (ci := 2) (v := .ref (am 4)) (C := RM9) (T := TM9) (N := 24) hx hb hts iM9 hown hK hP 0 (MWc_0 cI cL cZ hm am S1) rfl 6 (by decide) (hto (.fieldLink RM9 22 "PieceTraceModel" "held" "[Z") (by decide +kernel)) (fun _ h9 => h9) rfl dM_at_80 ?_
          refine lv_iload_n hx hb dM_at_83 rfl (lv_at hl 1 rfl) ?_
          obtain ⟨hi11, hw⟩ := hw
          refine va_zald (f := (mHe S1)) hx hb hK hP 5 2 (MWc_5 cI cL cZ hm am S1) rfl hi11 dM_at_84 ?_
          refine lv_if_eq (tgt := 92) hx hb dM_at_85 (by decide) (fun c12 => ?_) (fun c12 => ?_)
          · have hw := hw.1 c12
            refine lv_iconst (v := 0) hx hb dM_at_92 (by decide) ?_
            refine lv_goto (tgt := 130) hx hb dM_at_93 (by decide) ?_
            exact hJ130 S1 0   H locs ls hw hP hD hS (lv_sub hl [] rfl)
          · have hw := hw.2 c12
            refine lv_iconst (v := 1) hx hb dM_at_88 (by decide) ?_
            refine lv_goto (tgt := 130) hx hb dM_at_89 (by decide) ?_
            exact hJ130 S1 1   H locs ls hw hP hD hS (lv_sub hl [] rfl)
      · have hw := hw.2 c4
        refine lv_iload_n hx hb dM_at_40 rfl (lv_at hl 2 rfl) ?_
        refine lv_if_ne (tgt := 53) hx hb dM_at_41 (by decide) (fun c13 => ?_) (fun c13 => ?_)
        · have hw := hw.2 c13
          refine lv_iload_n hx hb dM_at_53 rfl (lv_at hl 2 rfl) ?_
          refine lv_iconst (v := 1) hx hb dM_at_54 (by decide) ?_
          refine lv_icmp_ne (tgt := 67) hx hb dM_at_55 (by decide) (fun c14 => ?_) (fun c14 => ?_)
          · have hw := hw.2 c14
            refine lv_aload_n hx hb dM_at_67 rfl (lv_at hl 0 rfl) ?_
            refine va_get (ci := 2) (v := .ref (am 3)) (C := RM9) (T := TM9) (N := 24) hx hb hts iM9 hown hK hP 0 (MWc_0 cI cL cZ hm am S1) rfl 5 (by decide) (hto (.fieldLink RM9 19 "PieceTraceModel" "state" "[I") (by decide +kernel)) (fun _ h9 => h9) rfl dM_at_68 ?_
            refine lv_iload_n hx hb dM_at_71 rfl (lv_at hl 1 rfl) ?_
            obtain ⟨hi15, hw⟩ := hw
            refine va_iald (f := (mSt S1)) hx hb hK hP 4 0 (MWc_4 cI cL cZ hm am S1) rfl hi15 dM_at_72 ?_
            exact hJ73 S1 (mSt S1 p0.toNatClampNeg)   H locs ls hw hP hD hS (lv_sub hl [] rfl)
          · have hw := hw.1 c14
            refine lv_aload_n hx hb dM_at_58 rfl (lv_at hl 0 rfl) ?_
            refine va_get (ci := 2) (v := .ref (am 2)) (C := RM9) (T := TM9) (N := 24) hx hb hts iM9 hown hK hP 0 (MWc_0 cI cL cZ hm am S1) rfl 4 (by decide) (hto (.fieldLink RM9 16 "PieceTraceModel" "length" "[I") (by decide +kernel)) (fun _ h9 => h9) rfl dM_at_59 ?_
            refine lv_iload_n hx hb dM_at_62 rfl (lv_at hl 1 rfl) ?_
            obtain ⟨hi16, hw⟩ := hw
            refine va_iald (f := (mLe S1)) hx hb hK hP 3 0 (MWc_3 cI cL cZ hm am S1) rfl hi16 dM_at_63 ?_
            refine lv_goto (tgt := 73) hx hb dM_at_64 (by decide) ?_
            exact hJ73 S1 (mLe S1 p0.toNatClampNeg)   H locs ls hw hP hD hS (lv_sub hl [] rfl)
        · have hw := hw.1 c13
          refine lv_aload_n hx hb dM_at_44 rfl (lv_at hl 0 rfl) ?_
          refine va_get (ci := 2) (v := .ref (am 1)) (C := RM9) (T := TM9) (N := 24) hx hb hts iM9 hown hK hP 0 (MWc_0 cI cL cZ hm am S1) rfl 3 (by decide) (hto (.fieldLink RM9 13 "PieceTraceModel" "weight" "[I") (by decide +kernel)) (fun _ h9 => h9) rfl dM_at_45 ?_
          refine lv_iload_n hx hb dM_at_48 rfl (lv_at hl 1 rfl) ?_
          obtain ⟨hi17, hw⟩ := hw
          refine va_iald (f := (mWe S1)) hx hb hK hP 2 0 (MWc_2 cI cL cZ hm am S1) rfl hi17 dM_at_49 ?_
          refine lv_goto (tgt := 73) hx hb dM_at_50 (by decide) ?_
          exact hJ73 S1 (mWe S1 p0.toNatClampNeg)   H locs ls hw hP hD hS (lv_sub hl [] rfl)
    · have hw := hw.2 c3
      refine lv_iconst (v := 0) hx hb dM_at_33 (by decide) ?_
      exact gr_i hx hb hr hlocks hK hP hD hS hw (Nat.le_of_ble_eq_true rfl) (Nat.le_of_ble_eq_true rfl) dM_at_34
  have hJ19 : ∀ (S : MSt) , ∀ (H : Heap) (locs : List Loc) (ls : Array Slot), wpJ_M_at_19 post p0 p1 S  → va_P D vwCl (MW cI cL cZ hm am S) H → va_D A (MW cI cL cZ hm am S) → va_S A s.heap H locs → lv_has ls 3 [(0, .ref hm), (1, .int p0), (2, .int p1)] → W p l e (headSpec wsM_at { frames := 2, cells := 0, slots := 0, locals := 43 }).room s m ([.ref hm, .int p0, .int p1] : List Value).toArray below meth c H locs 0 0 (MQ below (gQi D [(cI, .int), (cL, .long), (cZ, .boolean)] (MW cI cL cZ hm am) post A) ([.ref hm, .int p0, .int p1] : List Value).toArray s 0 0 A) (F0 m 19 ls [.ref hm]) := by
    intro S   H locs ls hw hP hD hS hl
    dsimp only [wpJ_M_at_19] at hw
    refine lv_iconst (v := 1) hx hb dM_at_19 (by decide) ?_
    refine lv_goto (tgt := 24) hx hb dM_at_20 (by decide) ?_
    exact hJ24 S 1  (Or.inr rfl) H locs ls hw hP hD hS (lv_sub hl [0, 1, 2] rfl)
  dsimp only [wp_M_at] at hw
  refine lv_aload_n hx hb dM_at_0 rfl (lv_at hl 0 rfl) ?_
  refine lv_aload_n hx hb dM_at_1 rfl (lv_at hl 0 rfl) ?_
  refine lv_iload_n hx hb dM_at_2 rfl (lv_at hl 1 rfl) ?_
  refine gk_z (wr := []) (wc := MW cI cL cZ hm am S) (wfc := MW cI cL cZ hm am) hP hD hS hA (va_runV (As := [.int p0]) (rest := [.ref hm]) C (c_M_isPiece l hl9 D cI cL cZ hm am _ p0 S hw H.size) (cwV 1 hts (gGV (by decide +kernel) kM_isPiece) rfl rfl rfl (by decide +kernel) ⟨Nat.le_of_ble_eq_true rfl, Nat.le_of_ble_eq_true rfl⟩) (g_preV (wr := []) (wc := MW cI cL cZ hm am S) (ci := 2) hK hG hA hP hD hS rfl (MWc_0 cI cL cZ hm am S) rfl) rfl rfl hl.1 rfl (lv_room (Nat.le_of_ble_eq_true rfl)) dM_at_3 ⟨Nat.le_of_ble_eq_true rfl, Nat.le_of_ble_eq_true rfl⟩) (fun r19 S18 hbr19 H locs hw hP hD hS => ?_)
  have hP : va_P D vwCl (MW cI cL cZ hm am S18) H := hP
  have hD : va_D A (MW cI cL cZ hm am S18) := hD
  refine lv_if_eq (tgt := 19) hx hb dM_at_6 (by decide) (fun c20 => ?_) (fun c20 => ?_)
  · have hw := hw.1 c20
    exact hJ19 S18    H locs ls hw hP hD hS (lv_sub hl [0, 1, 2] rfl)
  · have hw := hw.2 c20
    refine lv_iload_n hx hb dM_at_9 rfl (lv_at hl 2 rfl) ?_
    refine lv_iconst (v := 0) hx hb dM_at_10 (by decide) ?_
    refine lv_bipush (v := 6) hx hb dM_at_11 (by decide) ?_
    refine gk_z (wr := []) (wc := MW cI cL cZ hm am S18) (wfc := MW cI cL cZ hm am) hP hD hS hA (va_runS (As := [.int p1, .int 0, .int 6]) (rest := [.ref hm]) C (c_M_in l hl9 D cI cL cZ hm am _ p1 0 6 S18 hw H.size) (va_cwS 3 hts (gGS (by decide +kernel) kM_in) rfl rfl rfl (by decide +kernel) ⟨Nat.le_of_ble_eq_true rfl, Nat.le_of_ble_eq_true rfl⟩) (g_preS (wr := []) (wc := MW cI cL cZ hm am S18) hK hG hA hP hD hS) rfl rfl hl.1 rfl (lv_room (Nat.le_of_ble_eq_true rfl)) dM_at_13 ⟨Nat.le_of_ble_eq_true rfl, Nat.le_of_ble_eq_true rfl⟩) (fun r22 S21 hbr22 H locs hw hP hD hS => ?_)
    have hP : va_P D vwCl (MW cI cL cZ hm am S21) H := hP
    have hD : va_D A (MW cI cL cZ hm am S21) := hD
    refine lv_if_ne (tgt := 23) hx hb dM_at_16 (by decide) (fun c23 => ?_) (fun c23 => ?_)
    · have hw := hw.2 c23
      refine lv_iconst (v := 0) hx hb dM_at_23 (by decide) ?_
      exact hJ24 S21 0  (Or.inl rfl) H locs ls hw hP hD hS (lv_sub hl [0, 1, 2] rfl)
    · have hw := hw.1 c23
      exact hJ19 S21    H locs ls hw hP hD hS (lv_sub hl [0, 1, 2] rfl)
def wpJ_M_origin_106 (post : Int64 → MSt → Prop) (p0 : Int32) (p1 : Int32) (p2 : Int32) (S : MSt) (t0 : Int64) : Prop := (post t0 S)
def wpJ_M_origin_62 (post : Int64 → MSt → Prop) (p0 : Int32) (p1 : Int32) (p2 : Int32) (S : MSt) (t0 : Int32) (t1 : Int32) : Prop := (wp_M_throwing (fun r2 S1 => ((r2 = 0 → (wp_M_goBack (fun  S4 => ((p2 = 0 → (wpJ_M_origin_106 post p0 p1 p2 S4 ((mme S4).toInt64))) ∧ (¬ p2 = 0 → ((p2 = 1 → (wpJ_M_origin_106 post p0 p1 p2 S4 (mup S4))) ∧ (¬ p2 = 1 → (wpJ_M_origin_106 post p0 p1 p2 S4 (mlo S4))))))) p0 p1 S1)) ∧ (¬ r2 = 0 → (post 0 S1)))) t1 t0 0 0 S)
def wpJ_M_origin_61 (post : Int64 → MSt → Prop) (p0 : Int32) (p1 : Int32) (p2 : Int32) (S : MSt) (t0 : Int32) : Prop := (wpJ_M_origin_62 post p0 p1 p2 S 0 t0)
def wpJ_M_origin_48 (post : Int64 → MSt → Prop) (p0 : Int32) (p1 : Int32) (p2 : Int32) (S : MSt) (t0 : Int32) (t2 : Int32) (t3 : Int32) (t4 : Int32) : Prop := (vp_in t0 40 ∧ (wp_M_in (fun r9 S8 => ((r9 = 0 → (wpJ_M_origin_62 post p0 p1 p2 S8 1 t4)) ∧ (¬ r9 = 0 → (wpJ_M_origin_61 post p0 p1 p2 S8 t4)))) t3 t2 ((mLe S t0.toNatClampNeg) - 1) S))
def wpJ_M_origin_22 (post : Int64 → MSt → Prop) (p0 : Int32) (p1 : Int32) (p2 : Int32) (S : MSt) (t0 : Int32) : Prop := ((t0 = 0 → (wpJ_M_origin_48 post p0 p1 p2 S p0 0 p1 t0)) ∧ (¬ t0 = 0 → (wpJ_M_origin_61 post p0 p1 p2 S t0)))
def wpJ_M_origin_17 (post : Int64 → MSt → Prop) (p0 : Int32) (p1 : Int32) (p2 : Int32) (S : MSt)  : Prop := (wpJ_M_origin_22 post p0 p1 p2 S 1)
def wp_M_origin (post : Int64 → MSt → Prop) (p0 : Int32) (p1 : Int32) (p2 : Int32) (S : MSt) : Prop := (wp_M_isPiece (fun r13 S12 => ((r13 = 0 → (wpJ_M_origin_17 post p0 p1 p2 S12 )) ∧ (¬ r13 = 0 → (wp_M_in (fun r16 S15 => ((r16 = 0 → (wpJ_M_origin_17 post p0 p1 p2 S15 )) ∧ (¬ r16 = 0 → (wpJ_M_origin_22 post p0 p1 p2 S15 0)))) p2 0 2 S12)))) p0 S)
set_option maxHeartbeats 4000000 in
set_option maxRecDepth 100000 in
theorem c_M_origin (l : Launch) (hl9 : l.stackTraces = false) (D : va_G) (cI cL cZ : ClassId) (hm : Nat) (am : Nat → Nat) (post : Int64 → MSt → Prop) (p0 : Int32) (p1 : Int32) (p2 : Int32) (S : MSt) (hw : wp_M_origin post p0 p1 p2 S) : gMl l yM_origin wsM_origin ({ frames := 2, cells := 0, slots := 0, locals := 50 }) D [(cI, .int), (cL, .long), (cZ, .boolean)] [.ref hm, .int p0, .int p1, .int p2] (MW cI cL cZ hm am S) (MW cI cL cZ hm am) post := by
  refine g_ofMl (cc := cM_origin) (maxL := 5) (ret := (some .long)) (own := RM9) (by decide) rfl rfl (Nat.le_of_ble_eq_true rfl) ?_
  intro p e s m below meth c A H locs ls C hr hlocks hK hG hA hP hD hS hl
  obtain ⟨hx, hb, hml, hown, hts⟩ := id C
  have hts := fun w (h9 : w ∈ gW) => hts w (List.mem_cons_of_mem _ h9)
  have hto := fun w (h9 : w ∈ gWo) => hts w (gWo_in w h9)
  have hl : lv_has ls 5 [(0, .ref hm), (1, .int p0), (2, .int p1), (3, .int p2)] := hl
  have hJ106 : ∀ (S : MSt) (t0 : Int64), ∀ (H : Heap) (locs : List Loc) (ls : Array Slot), wpJ_M_origin_106 post p0 p1 p2 S t0 → va_P D vwCl (MW cI cL cZ hm am S) H → va_D A (MW cI cL cZ hm am S) → va_S A s.heap H locs → lv_has ls 5 [] → W p l e (headSpec wsM_origin { frames := 2, cells := 0, slots := 0, locals := 50 }).room s m ([.ref hm, .int p0, .int p1, .int p2] : List Value).toArray below meth c H locs 0 0 (MQ below (gQl D [(cI, .int), (cL, .long), (cZ, .boolean)] (MW cI cL cZ hm am) post A) ([.ref hm, .int p0, .int p1, .int p2] : List Value).toArray s 0 0 A) (F0 m 106 ls [.long t0]) := by
    intro S t0  H locs ls hw hP hD hS hl
    dsimp only [wpJ_M_origin_106] at hw
    exact gr_l hx hb hr hlocks hK hP hD hS hw (Nat.le_of_ble_eq_true rfl) (Nat.le_of_ble_eq_true rfl) dM_origin_106
  have hJ62 : ∀ (S : MSt) (t0 : Int32) (t1 : Int32), (t0 = 0 ∨ t0 = 1) → (t1 = 0 ∨ t1 = 1) → ∀ (H : Heap) (locs : List Loc) (ls : Array Slot), wpJ_M_origin_62 post p0 p1 p2 S t0 t1 → va_P D vwCl (MW cI cL cZ hm am S) H → va_D A (MW cI cL cZ hm am S) → va_S A s.heap H locs → lv_has ls 5 [(0, .ref hm), (1, .int p0), (2, .int p1), (3, .int p2)] → W p l e (headSpec wsM_origin { frames := 2, cells := 0, slots := 0, locals := 50 }).room s m ([.ref hm, .int p0, .int p1, .int p2] : List Value).toArray below meth c H locs 0 0 (MQ below (gQl D [(cI, .int), (cL, .long), (cZ, .boolean)] (MW cI cL cZ hm am) post A) ([.ref hm, .int p0, .int p1, .int p2] : List Value).toArray s 0 0 A) (F0 m 62 ls [.int t0, .int t1, .ref hm]) := by
    intro S t0 t1 hbt0 hbt1 H locs ls hw hP hD hS hl
    dsimp only [wpJ_M_origin_62] at hw
    refine lv_iconst (v := 0) hx hb dM_origin_62 (by decide) ?_
    refine lv_iconst (v := 0) hx hb dM_origin_63 (by decide) ?_
    refine gk_z (wr := []) (wc := MW cI cL cZ hm am S) (wfc := MW cI cL cZ hm am) hP hD hS hA (va_runV (As := [.int t1, .int t0, .int 0, .int 0]) (rest := []) C (c_M_throwing l hl9 D cI cL cZ hm am _ t1 t0 0 0 S hw H.size) (cwV 4 hts (gGV (by decide +kernel) kM_throwing) rfl rfl rfl (by decide +kernel) ⟨Nat.le_of_ble_eq_true rfl, Nat.le_of_ble_eq_true rfl⟩) (g_preV (wr := []) (wc := MW cI cL cZ hm am S) (ci := 2) hK hG hA hP hD hS rfl (MWc_0 cI cL cZ hm am S) rfl) rfl rfl hl.1 rfl (lv_room (Nat.le_of_ble_eq_true rfl)) dM_origin_64 ⟨Nat.le_of_ble_eq_true rfl, Nat.le_of_ble_eq_true rfl⟩) (fun r2 S1 hbr2 H locs hw hP hD hS => ?_)
    have hP : va_P D vwCl (MW cI cL cZ hm am S1) H := hP
    have hD : va_D A (MW cI cL cZ hm am S1) := hD
    refine lv_if_eq (tgt := 72) hx hb dM_origin_67 (by decide) (fun c3 => ?_) (fun c3 => ?_)
    · have hw := hw.1 c3
      refine lv_aload_n hx hb dM_origin_72 rfl (lv_at hl 0 rfl) ?_
      refine lv_iload_n hx hb dM_origin_73 rfl (lv_at hl 1 rfl) ?_
      refine lv_iload_n hx hb dM_origin_74 rfl (lv_at hl 2 rfl) ?_
      refine gk_v (wr := []) (wc := MW cI cL cZ hm am S1) (wfc := MW cI cL cZ hm am) hP hD hS hA (va_runV (As := [.int p0, .int p1]) (rest := []) C (c_M_goBack l hl9 D cI cL cZ hm am _ p0 p1 S1 hw H.size) (cwV 2 hts (gGV (by decide +kernel) kM_goBack) rfl rfl rfl (by decide +kernel) ⟨Nat.le_of_ble_eq_true rfl, Nat.le_of_ble_eq_true rfl⟩) (g_preV (wr := []) (wc := MW cI cL cZ hm am S1) (ci := 2) hK hG hA hP hD hS rfl (MWc_0 cI cL cZ hm am S1) rfl) rfl rfl hl.1 rfl (lv_room (Nat.le_of_ble_eq_true rfl)) dM_origin_75 ⟨Nat.le_of_ble_eq_true rfl, Nat.le_of_ble_eq_true rfl⟩) (fun  S4 H locs hw hP hD hS => ?_)
      have hP : va_P D vwCl (MW cI cL cZ hm am S4) H := hP
      have hD : va_D A (MW cI cL cZ hm am S4) := hD
      refine lv_iload_n hx hb dM_origin_78 rfl (lv_at hl 3 rfl) ?_
      refine lv_if_ne (tgt := 90) hx hb dM_origin_79 (by decide) (fun c5 => ?_) (fun c5 => ?_)
      · have hw := hw.2 c5
        refine lv_iload_n hx hb dM_origin_90 rfl (lv_at hl 3 rfl) ?_
        refine lv_iconst (v := 1) hx hb dM_origin_91 (by decide) ?_
        refine lv_icmp_ne (tgt := 102) hx hb dM_origin_92 (by decide) (fun c6 => ?_) (fun c6 => ?_)
        · have hw := hw.2 c6
          refine lv_aload_n hx hb dM_origin_102 rfl (lv_at hl 0 rfl) ?_
          refine va_get (ci := 2) (v := .long (mlo S4)) (C := RM9) (T := TM9) (N := 24) hx hb hts iM9 hown hK hP 0 (MWc_0 cI cL cZ hm am S4) rfl 21 (by decide) (hto (.fieldLink RM9 102 "PieceTraceModel" "low" "J") (by decide +kernel)) (fun _ h9 => h9) rfl dM_origin_103 ?_
          exact hJ106 S4 (mlo S4)   H locs ls hw hP hD hS (lv_sub hl [] rfl)
        · have hw := hw.1 c6
          refine lv_aload_n hx hb dM_origin_95 rfl (lv_at hl 0 rfl) ?_
          refine va_get (ci := 2) (v := .long (mup S4)) (C := RM9) (T := TM9) (N := 24) hx hb hts iM9 hown hK hP 0 (MWc_0 cI cL cZ hm am S4) rfl 20 (by decide) (hto (.fieldLink RM9 99 "PieceTraceModel" "up" "J") (by decide +kernel)) (fun _ h9 => h9) rfl dM_origin_96 ?_
          refine lv_goto (tgt := 106) hx hb dM_origin_99 (by decide) ?_
          exact hJ106 S4 (mup S4)   H locs ls hw hP hD hS (lv_sub hl [] rfl)
      · have hw := hw.1 c5
        refine lv_aload_n hx hb dM_origin_82 rfl (lv_at hl 0 rfl) ?_
        refine va_get (ci := 2) (v := .int (mme S4)) (C := RM9) (T := TM9) (N := 24) hx hb hts iM9 hown hK hP 0 (MWc_0 cI cL cZ hm am S4) rfl 19 (by decide) (hto (.fieldLink RM9 108 "PieceTraceModel" "melt" "I") (by decide +kernel)) (fun _ h9 => h9) rfl dM_origin_83 ?_
        refine lv_i2l (v := (mme S4).toInt64) hx hb dM_origin_86 rfl ?_
        refine lv_goto (tgt := 106) hx hb dM_origin_87 (by decide) ?_
        exact hJ106 S4 ((mme S4).toInt64)   H locs ls hw hP hD hS (lv_sub hl [] rfl)
    · have hw := hw.2 c3
      refine lv_lconst (v := 0) hx hb dM_origin_70 (by decide) ?_
      exact gr_l hx hb hr hlocks hK hP hD hS hw (Nat.le_of_ble_eq_true rfl) (Nat.le_of_ble_eq_true rfl) dM_origin_71
  have hJ61 : ∀ (S : MSt) (t0 : Int32), (t0 = 0 ∨ t0 = 1) → ∀ (H : Heap) (locs : List Loc) (ls : Array Slot), wpJ_M_origin_61 post p0 p1 p2 S t0 → va_P D vwCl (MW cI cL cZ hm am S) H → va_D A (MW cI cL cZ hm am S) → va_S A s.heap H locs → lv_has ls 5 [(0, .ref hm), (1, .int p0), (2, .int p1), (3, .int p2)] → W p l e (headSpec wsM_origin { frames := 2, cells := 0, slots := 0, locals := 50 }).room s m ([.ref hm, .int p0, .int p1, .int p2] : List Value).toArray below meth c H locs 0 0 (MQ below (gQl D [(cI, .int), (cL, .long), (cZ, .boolean)] (MW cI cL cZ hm am) post A) ([.ref hm, .int p0, .int p1, .int p2] : List Value).toArray s 0 0 A) (F0 m 61 ls [.int t0, .ref hm]) := by
    intro S t0 hbt0 H locs ls hw hP hD hS hl
    dsimp only [wpJ_M_origin_61] at hw
    refine lv_iconst (v := 0) hx hb dM_origin_61 (by decide) ?_
    exact hJ62 S 0 t0  (Or.inl rfl) hbt0 H locs ls hw hP hD hS (lv_sub hl [0, 1, 2, 3] rfl)
  have hJ48 : ∀ (S : MSt) (t0 : Int32) (t2 : Int32) (t3 : Int32) (t4 : Int32), (t2 = 0 ∨ t2 = 1) → (t4 = 0 ∨ t4 = 1) → ∀ (H : Heap) (locs : List Loc) (ls : Array Slot), wpJ_M_origin_48 post p0 p1 p2 S t0 t2 t3 t4 → va_P D vwCl (MW cI cL cZ hm am S) H → va_D A (MW cI cL cZ hm am S) → va_S A s.heap H locs → lv_has ls 5 [(0, .ref hm), (1, .int p0), (2, .int p1), (3, .int p2)] → W p l e (headSpec wsM_origin { frames := 2, cells := 0, slots := 0, locals := 50 }).room s m ([.ref hm, .int p0, .int p1, .int p2] : List Value).toArray below meth c H locs 0 0 (MQ below (gQl D [(cI, .int), (cL, .long), (cZ, .boolean)] (MW cI cL cZ hm am) post A) ([.ref hm, .int p0, .int p1, .int p2] : List Value).toArray s 0 0 A) (F0 m 48 ls [.int t0, .ref (am 2), .int t2, .int t3, .int t4, .ref hm]) := by
    intro S t0 t2 t3 t4 hbt2 hbt4 H locs ls hw hP hD hS hl
    dsimp only [wpJ_M_origin_48] at hw
    obtain ⟨hi7, hw⟩ := hw
    refine va_iald (f := (mLe S)) hx hb hK hP 3 0 (MWc_3 cI cL cZ hm am S) rfl hi7 dM_origin_48 ?_
    refine lv_iconst (v := 1) hx hb dM_origin_49 (by decide) ?_
    refine lv_isub hx hb dM_origin_50 ?_
    refine gk_z (wr := []) (wc := MW cI cL cZ hm am S) (wfc := MW cI cL cZ hm am) hP hD hS hA (va_runS (As := [.int t3, .int t2, .int ((mLe S t0.toNatClampNeg) - 1)]) (rest := [.int t4, .ref hm]) C (c_M_in l hl9 D cI cL cZ hm am _ t3 t2 ((mLe S t0.toNatClampNeg) - 1) S hw H.size) (va_cwS 3 hts (gGS (by decide +kernel) kM_in) rfl rfl rfl (by decide +kernel) ⟨Nat.le_of_ble_eq_true rfl, Nat.le_of_ble_eq_true rfl⟩) (g_preS (wr := []) (wc := MW cI cL cZ hm am S) hK hG hA hP hD hS) rfl rfl hl.1 rfl (lv_room (Nat.le_of_ble_eq_true rfl)) dM_origin_51 ⟨Nat.le_of_ble_eq_true rfl, Nat.le_of_ble_eq_true rfl⟩) (fun r9 S8 hbr9 H locs hw hP hD hS => ?_)
    have hP : va_P D vwCl (MW cI cL cZ hm am S8) H := hP
    have hD : va_D A (MW cI cL cZ hm am S8) := hD
    refine lv_if_ne (tgt := 61) hx hb dM_origin_54 (by decide) (fun c10 => ?_) (fun c10 => ?_)
    · have hw := hw.2 c10
      exact hJ61 S8 t4  hbt4 H locs ls hw hP hD hS (lv_sub hl [0, 1, 2, 3] rfl)
    · have hw := hw.1 c10
      refine lv_iconst (v := 1) hx hb dM_origin_57 (by decide) ?_
      refine lv_goto (tgt := 62) hx hb dM_origin_58 (by decide) ?_
      exact hJ62 S8 1 t4  (Or.inr rfl) hbt4 H locs ls hw hP hD hS (lv_sub hl [0, 1, 2, 3] rfl)
  have hJ22 : ∀ (S : MSt) (t0 : Int32), (t0 = 0 ∨ t0 = 1) → ∀ (H : Heap) (locs : List Loc) (ls : Array Slot), wpJ_M_origin_22 post p0 p1 p2 S t0 → va_P D vwCl (MW cI cL cZ hm am S) H → va_D A (MW cI cL cZ hm am S) → va_S A s.heap H locs → lv_has ls 5 [(0, .ref hm), (1, .int p0), (2, .int p1), (3, .int p2)] → W p l e (headSpec wsM_origin { frames := 2, cells := 0, slots := 0, locals := 50 }).room s m ([.ref hm, .int p0, .int p1, .int p2] : List Value).toArray below meth c H locs 0 0 (MQ below (gQl D [(cI, .int), (cL, .long), (cZ, .boolean)] (MW cI cL cZ hm am) post A) ([.ref hm, .int p0, .int p1, .int p2] : List Value).toArray s 0 0 A) (F0 m 22 ls [.int t0]) := by
    intro S t0 hbt0 H locs ls hw hP hD hS hl
    dsimp only [wpJ_M_origin_22] at hw
    refine lv_istore (lv' := [(4, .int t0), (0, .ref hm), (1, .int p0), (2, .int p1), (3, .int p2)]) hx hb dM_origin_22 hl (by decide) rfl (fun ls hl => ?_)
    refine lv_aload_n hx hb dM_origin_24 rfl (lv_at hl 1 rfl) ?_
    refine lv_iload hx hb dM_origin_25 (lv_at hl 0 rfl) ?_
    refine lv_iload hx hb dM_origin_27 (lv_at hl 0 rfl) ?_
    refine lv_if_ne (tgt := 61) hx hb dM_origin_29 (by decide) (fun c11 => ?_) (fun c11 => ?_)
    · have hw := hw.2 c11
      exact hJ61 S t0  hbt0 H locs ls hw hP hD hS (lv_sub hl [1, 2, 3, 4] rfl)
    · have hw := hw.1 c11
      refine lv_iload_n hx hb dM_origin_32 rfl (lv_at hl 3 rfl) ?_
      refine lv_iconst (v := 0) hx hb dM_origin_33 (by decide) ?_
      refine lv_aload_n hx hb dM_origin_34 rfl (lv_at hl 1 rfl) ?_
      refine va_get (ci := 2) (v := .ref (am 2)) (C := RM9) (T := TM9) (N := 24) hx hb hts iM9 hown hK hP 0 (MWc_0 cI cL cZ hm am S) rfl 4 (by decide) (hto (.fieldLink RM9 16 "PieceTraceModel" "length" "[I") (by decide +kernel)) (fun _ h9 => h9) rfl dM_origin_35 ?_
      refine lv_iload hx hb dM_origin_38 (lv_at hl 0 rfl) ?_
      refine lv_if_eq (tgt := 47) hx hb dM_origin_40 (by decide) (fun _ => ?_) (fun c9 => absurd c11 c9)
      refine lv_iload_n hx hb dM_origin_47 rfl (lv_at hl 2 rfl) ?_
      exact hJ48 S p0 0 p1 t0  (Or.inl rfl) hbt0 H locs ls hw hP hD hS (lv_sub hl [1, 2, 3, 4] rfl)
  have hJ17 : ∀ (S : MSt) , ∀ (H : Heap) (locs : List Loc) (ls : Array Slot), wpJ_M_origin_17 post p0 p1 p2 S  → va_P D vwCl (MW cI cL cZ hm am S) H → va_D A (MW cI cL cZ hm am S) → va_S A s.heap H locs → lv_has ls 5 [(0, .ref hm), (1, .int p0), (2, .int p1), (3, .int p2)] → W p l e (headSpec wsM_origin { frames := 2, cells := 0, slots := 0, locals := 50 }).room s m ([.ref hm, .int p0, .int p1, .int p2] : List Value).toArray below meth c H locs 0 0 (MQ below (gQl D [(cI, .int), (cL, .long), (cZ, .boolean)] (MW cI cL cZ hm am) post A) ([.ref hm, .int p0, .int p1, .int p2] : List Value).toArray s 0 0 A) (F0 m 17 ls []) := by
    intro S   H locs ls hw hP hD hS hl
    dsimp only [wpJ_M_origin_17] at hw
    refine lv_iconst (v := 1) hx hb dM_origin_17 (by decide) ?_
    refine lv_goto (tgt := 22) hx hb dM_origin_18 (by decide) ?_
    exact hJ22 S 1  (Or.inr rfl) H locs ls hw hP hD hS (lv_sub hl [0, 1, 2, 3] rfl)
  dsimp only [wp_M_origin] at hw
  refine lv_aload_n hx hb dM_origin_0 rfl (lv_at hl 0 rfl) ?_
  refine lv_iload_n hx hb dM_origin_1 rfl (lv_at hl 1 rfl) ?_
  refine gk_z (wr := []) (wc := MW cI cL cZ hm am S) (wfc := MW cI cL cZ hm am) hP hD hS hA (va_runV (As := [.int p0]) (rest := []) C (c_M_isPiece l hl9 D cI cL cZ hm am _ p0 S hw H.size) (cwV 1 hts (gGV (by decide +kernel) kM_isPiece) rfl rfl rfl (by decide +kernel) ⟨Nat.le_of_ble_eq_true rfl, Nat.le_of_ble_eq_true rfl⟩) (g_preV (wr := []) (wc := MW cI cL cZ hm am S) (ci := 2) hK hG hA hP hD hS rfl (MWc_0 cI cL cZ hm am S) rfl) rfl rfl hl.1 rfl (lv_room (Nat.le_of_ble_eq_true rfl)) dM_origin_2 ⟨Nat.le_of_ble_eq_true rfl, Nat.le_of_ble_eq_true rfl⟩) (fun r13 S12 hbr13 H locs hw hP hD hS => ?_)
  have hP : va_P D vwCl (MW cI cL cZ hm am S12) H := hP
  have hD : va_D A (MW cI cL cZ hm am S12) := hD
  refine lv_if_eq (tgt := 17) hx hb dM_origin_5 (by decide) (fun c14 => ?_) (fun c14 => ?_)
  · have hw := hw.1 c14
    exact hJ17 S12    H locs ls hw hP hD hS (lv_sub hl [0, 1, 2, 3] rfl)
  · have hw := hw.2 c14
    refine lv_iload_n hx hb dM_origin_8 rfl (lv_at hl 3 rfl) ?_
    refine lv_iconst (v := 0) hx hb dM_origin_9 (by decide) ?_
    refine lv_iconst (v := 2) hx hb dM_origin_10 (by decide) ?_
    refine gk_z (wr := []) (wc := MW cI cL cZ hm am S12) (wfc := MW cI cL cZ hm am) hP hD hS hA (va_runS (As := [.int p2, .int 0, .int 2]) (rest := []) C (c_M_in l hl9 D cI cL cZ hm am _ p2 0 2 S12 hw H.size) (va_cwS 3 hts (gGS (by decide +kernel) kM_in) rfl rfl rfl (by decide +kernel) ⟨Nat.le_of_ble_eq_true rfl, Nat.le_of_ble_eq_true rfl⟩) (g_preS (wr := []) (wc := MW cI cL cZ hm am S12) hK hG hA hP hD hS) rfl rfl hl.1 rfl (lv_room (Nat.le_of_ble_eq_true rfl)) dM_origin_11 ⟨Nat.le_of_ble_eq_true rfl, Nat.le_of_ble_eq_true rfl⟩) (fun r16 S15 hbr16 H locs hw hP hD hS => ?_)
    have hP : va_P D vwCl (MW cI cL cZ hm am S15) H := hP
    have hD : va_D A (MW cI cL cZ hm am S15) := hD
    refine lv_if_ne (tgt := 21) hx hb dM_origin_14 (by decide) (fun c17 => ?_) (fun c17 => ?_)
    · have hw := hw.2 c17
      refine lv_iconst (v := 0) hx hb dM_origin_21 (by decide) ?_
      exact hJ22 S15 0  (Or.inl rfl) H locs ls hw hP hD hS (lv_sub hl [0, 1, 2, 3] rfl)
    · have hw := hw.1 c17
      exact hJ17 S15    H locs ls hw hP hD hS (lv_sub hl [0, 1, 2, 3] rfl)
def wpJ_M_defect_63 (post : Int32 → MSt → Prop) (p0 : Int32) (p1 : Int32) (S : MSt) (t0 : Int32) (t1 : Int32) (t2 : Int32) : Prop := (wp_M_throwing (fun r2 S1 => ((r2 = 0 → (wp_M_goBack (fun  S4 => (vp_in (mdc S4) 10 ∧ (∀ S6 : MSt, S6 = muDM S4 (mdc S4) (mme S4) → (vp_in (mdc S6) 10 ∧ (∀ S8 : MSt, S8 = muDU S6 (mdc S6) (mup S6) → (vp_in (mdc S8) 10 ∧ (∀ S10 : MSt, S10 = muDL S8 (mdc S8) (mlo S8) → (∀ S11 : MSt, S11 = msdc S10 ((mdc S10) + 1) → (post ((mdc S11) - 1) S11))))))))) p0 p1 S1)) ∧ (¬ r2 = 0 → (post 0 S1)))) t2 t1 t0 0 S)
def wpJ_M_defect_49 (post : Int32 → MSt → Prop) (p0 : Int32) (p1 : Int32) (S : MSt) (t0 : Int32) (t1 : Int32) : Prop := (((mdc S) = 10 → (wpJ_M_defect_63 post p0 p1 S 1 t0 t1)) ∧ (¬ (mdc S) = 10 → (wpJ_M_defect_63 post p0 p1 S 0 t0 t1)))
def wpJ_M_defect_48 (post : Int32 → MSt → Prop) (p0 : Int32) (p1 : Int32) (S : MSt) (t0 : Int32) : Prop := (wpJ_M_defect_49 post p0 p1 S 0 t0)
def wpJ_M_defect_35 (post : Int32 → MSt → Prop) (p0 : Int32) (p1 : Int32) (S : MSt) (t0 : Int32) (t2 : Int32) (t3 : Int32) (t4 : Int32) : Prop := (vp_in t0 40 ∧ (wp_M_in (fun r15 S14 => ((r15 = 0 → (wpJ_M_defect_49 post p0 p1 S14 1 t4)) ∧ (¬ r15 = 0 → (wpJ_M_defect_48 post p0 p1 S14 t4)))) t3 t2 ((mLe S t0.toNatClampNeg) - 1) S))
def wpJ_M_defect_13 (post : Int32 → MSt → Prop) (p0 : Int32) (p1 : Int32) (S : MSt) (t0 : Int32) : Prop := ((t0 = 0 → (wpJ_M_defect_35 post p0 p1 S p0 0 p1 t0)) ∧ (¬ t0 = 0 → (wpJ_M_defect_48 post p0 p1 S t0)))
def wp_M_defect (post : Int32 → MSt → Prop) (p0 : Int32) (p1 : Int32) (S : MSt) : Prop := (wp_M_isPiece (fun r19 S18 => ((r19 = 0 → (wpJ_M_defect_13 post p0 p1 S18 1)) ∧ (¬ r19 = 0 → (wpJ_M_defect_13 post p0 p1 S18 0)))) p0 S)
set_option maxHeartbeats 4000000 in
set_option maxRecDepth 100000 in
theorem c_M_defect (l : Launch) (hl9 : l.stackTraces = false) (D : va_G) (cI cL cZ : ClassId) (hm : Nat) (am : Nat → Nat) (post : Int32 → MSt → Prop) (p0 : Int32) (p1 : Int32) (S : MSt) (hw : wp_M_defect post p0 p1 S) : gMi l yM_defect wsM_defect ({ frames := 2, cells := 0, slots := 0, locals := 50 }) D [(cI, .int), (cL, .long), (cZ, .boolean)] [.ref hm, .int p0, .int p1] (MW cI cL cZ hm am S) (MW cI cL cZ hm am) post := by
  refine g_ofMi (cc := cM_defect) (maxL := 4) (ret := (some .int)) (own := RM9) (by decide) rfl rfl (Nat.le_of_ble_eq_true rfl) ?_
  intro p e s m below meth c A H locs ls C hr hlocks hK hG hA hP hD hS hl
  obtain ⟨hx, hb, hml, hown, hts⟩ := id C
  have hts := fun w (h9 : w ∈ gW) => hts w (List.mem_cons_of_mem _ h9)
  have hto := fun w (h9 : w ∈ gWo) => hts w (gWo_in w h9)
  have hl : lv_has ls 4 [(0, .ref hm), (1, .int p0), (2, .int p1)] := hl
  have hJ63 : ∀ (S : MSt) (t0 : Int32) (t1 : Int32) (t2 : Int32), (t0 = 0 ∨ t0 = 1) → (t1 = 0 ∨ t1 = 1) → (t2 = 0 ∨ t2 = 1) → ∀ (H : Heap) (locs : List Loc) (ls : Array Slot), wpJ_M_defect_63 post p0 p1 S t0 t1 t2 → va_P D vwCl (MW cI cL cZ hm am S) H → va_D A (MW cI cL cZ hm am S) → va_S A s.heap H locs → lv_has ls 4 [(0, .ref hm), (1, .int p0), (2, .int p1)] → W p l e (headSpec wsM_defect { frames := 2, cells := 0, slots := 0, locals := 50 }).room s m ([.ref hm, .int p0, .int p1] : List Value).toArray below meth c H locs 0 0 (MQ below (gQi D [(cI, .int), (cL, .long), (cZ, .boolean)] (MW cI cL cZ hm am) post A) ([.ref hm, .int p0, .int p1] : List Value).toArray s 0 0 A) (F0 m 63 ls [.int t0, .int t1, .int t2, .ref hm]) := by
    intro S t0 t1 t2 hbt0 hbt1 hbt2 H locs ls hw hP hD hS hl
    dsimp only [wpJ_M_defect_63] at hw
    refine lv_iconst (v := 0) hx hb dM_defect_63 (by decide) ?_
    refine gk_z (wr := []) (wc := MW cI cL cZ hm am S) (wfc := MW cI cL cZ hm am) hP hD hS hA (va_runV (As := [.int t2, .int t1, .int t0, .int 0]) (rest := []) C (c_M_throwing l hl9 D cI cL cZ hm am _ t2 t1 t0 0 S hw H.size) (cwV 4 hts (gGV (by decide +kernel) kM_throwing) rfl rfl rfl (by decide +kernel) ⟨Nat.le_of_ble_eq_true rfl, Nat.le_of_ble_eq_true rfl⟩) (g_preV (wr := []) (wc := MW cI cL cZ hm am S) (ci := 2) hK hG hA hP hD hS rfl (MWc_0 cI cL cZ hm am S) rfl) rfl rfl hl.1 rfl (lv_room (Nat.le_of_ble_eq_true rfl)) dM_defect_64 ⟨Nat.le_of_ble_eq_true rfl, Nat.le_of_ble_eq_true rfl⟩) (fun r2 S1 hbr2 H locs hw hP hD hS => ?_)
    have hP : va_P D vwCl (MW cI cL cZ hm am S1) H := hP
    have hD : va_D A (MW cI cL cZ hm am S1) := hD
    refine lv_if_eq (tgt := 72) hx hb dM_defect_67 (by decide) (fun c3 => ?_) (fun c3 => ?_)
    · have hw := hw.1 c3
      refine lv_aload_n hx hb dM_defect_72 rfl (lv_at hl 0 rfl) ?_
      refine lv_iload_n hx hb dM_defect_73 rfl (lv_at hl 1 rfl) ?_
      refine lv_iload_n hx hb dM_defect_74 rfl (lv_at hl 2 rfl) ?_
      refine gk_v (wr := []) (wc := MW cI cL cZ hm am S1) (wfc := MW cI cL cZ hm am) hP hD hS hA (va_runV (As := [.int p0, .int p1]) (rest := []) C (c_M_goBack l hl9 D cI cL cZ hm am _ p0 p1 S1 hw H.size) (cwV 2 hts (gGV (by decide +kernel) kM_goBack) rfl rfl rfl (by decide +kernel) ⟨Nat.le_of_ble_eq_true rfl, Nat.le_of_ble_eq_true rfl⟩) (g_preV (wr := []) (wc := MW cI cL cZ hm am S1) (ci := 2) hK hG hA hP hD hS rfl (MWc_0 cI cL cZ hm am S1) rfl) rfl rfl hl.1 rfl (lv_room (Nat.le_of_ble_eq_true rfl)) dM_defect_75 ⟨Nat.le_of_ble_eq_true rfl, Nat.le_of_ble_eq_true rfl⟩) (fun  S4 H locs hw hP hD hS => ?_)
      have hP : va_P D vwCl (MW cI cL cZ hm am S4) H := hP
      have hD : va_D A (MW cI cL cZ hm am S4) := hD
      refine lv_aload_n hx hb dM_defect_78 rfl (lv_at hl 0 rfl) ?_
      refine va_get (ci := 2) (v := .ref (am 11)) (C := RM9) (T := TM9) (N := 24) hx hb hts iM9 hown hK hP 0 (MWc_0 cI cL cZ hm am S4) rfl 16 (by decide) (hto (.fieldLink RM9 44 "PieceTraceModel" "defectMelt" "[I") (by decide +kernel)) (fun _ h9 => h9) rfl dM_defect_79 ?_
      refine lv_aload_n hx hb dM_defect_82 rfl (lv_at hl 0 rfl) ?_
      refine va_get (ci := 2) (v := .int (mdc S4)) (C := RM9) (T := TM9) (N := 24) hx hb hts iM9 hown hK hP 0 (MWc_0 cI cL cZ hm am S4) rfl 15 (by decide) (hto (.fieldLink RM9 115 "PieceTraceModel" "defects" "I") (by decide +kernel)) (fun _ h9 => h9) rfl dM_defect_83 ?_
      refine lv_aload_n hx hb dM_defect_86 rfl (lv_at hl 0 rfl) ?_
      refine va_get (ci := 2) (v := .int (mme S4)) (C := RM9) (T := TM9) (N := 24) hx hb hts iM9 hown hK hP 0 (MWc_0 cI cL cZ hm am S4) rfl 19 (by decide) (hto (.fieldLink RM9 108 "PieceTraceModel" "melt" "I") (by decide +kernel)) (fun _ h9 => h9) rfl dM_defect_87 ?_
      obtain ⟨hi5, hw⟩ := hw
      refine g_iast (wf := MW cI cL cZ hm am) (S' := muDM S4 (mdc S4) (mme S4)) hx hb hK hP hD hS 12 0 (MWc_12 cI cL cZ hm am S4) rfl rfl hi5 dM_defect_90 (fun S6 eS6 H locs hP hD hS => ?_)
      have hw := hw S6 eS6
      refine lv_aload_n hx hb dM_defect_91 rfl (lv_at hl 0 rfl) ?_
      refine va_get (ci := 2) (v := .ref (am 12)) (C := RM9) (T := TM9) (N := 24) hx hb hts iM9 hown hK hP 0 (MWc_0 cI cL cZ hm am S6) rfl 17 (by decide) (hto (.fieldLink RM9 47 "PieceTraceModel" "defectUp" "[J") (by decide +kernel)) (fun _ h9 => h9) rfl dM_defect_92 ?_
      refine lv_aload_n hx hb dM_defect_95 rfl (lv_at hl 0 rfl) ?_
      refine va_get (ci := 2) (v := .int (mdc S6)) (C := RM9) (T := TM9) (N := 24) hx hb hts iM9 hown hK hP 0 (MWc_0 cI cL cZ hm am S6) rfl 15 (by decide) (hto (.fieldLink RM9 115 "PieceTraceModel" "defects" "I") (by decide +kernel)) (fun _ h9 => h9) rfl dM_defect_96 ?_
      refine lv_aload_n hx hb dM_defect_99 rfl (lv_at hl 0 rfl) ?_
      refine va_get (ci := 2) (v := .long (mup S6)) (C := RM9) (T := TM9) (N := 24) hx hb hts iM9 hown hK hP 0 (MWc_0 cI cL cZ hm am S6) rfl 20 (by decide) (hto (.fieldLink RM9 99 "PieceTraceModel" "up" "J") (by decide +kernel)) (fun _ h9 => h9) rfl dM_defect_100 ?_
      obtain ⟨hi7, hw⟩ := hw
      refine g_last (wf := MW cI cL cZ hm am) (S' := muDU S6 (mdc S6) (mup S6)) hx hb hK hP hD hS 13 1 (MWc_13 cI cL cZ hm am S6) rfl rfl hi7 dM_defect_103 (fun S8 eS8 H locs hP hD hS => ?_)
      have hw := hw S8 eS8
      refine lv_aload_n hx hb dM_defect_104 rfl (lv_at hl 0 rfl) ?_
      refine va_get (ci := 2) (v := .ref (am 13)) (C := RM9) (T := TM9) (N := 24) hx hb hts iM9 hown hK hP 0 (MWc_0 cI cL cZ hm am S8) rfl 18 (by decide) (hto (.fieldLink RM9 51 "PieceTraceModel" "defectLow" "[J") (by decide +kernel)) (fun _ h9 => h9) rfl dM_defect_105 ?_
      refine lv_aload_n hx hb dM_defect_108 rfl (lv_at hl 0 rfl) ?_
      refine va_get (ci := 2) (v := .int (mdc S8)) (C := RM9) (T := TM9) (N := 24) hx hb hts iM9 hown hK hP 0 (MWc_0 cI cL cZ hm am S8) rfl 15 (by decide) (hto (.fieldLink RM9 115 "PieceTraceModel" "defects" "I") (by decide +kernel)) (fun _ h9 => h9) rfl dM_defect_109 ?_
      refine lv_aload_n hx hb dM_defect_112 rfl (lv_at hl 0 rfl) ?_
      refine va_get (ci := 2) (v := .long (mlo S8)) (C := RM9) (T := TM9) (N := 24) hx hb hts iM9 hown hK hP 0 (MWc_0 cI cL cZ hm am S8) rfl 21 (by decide) (hto (.fieldLink RM9 102 "PieceTraceModel" "low" "J") (by decide +kernel)) (fun _ h9 => h9) rfl dM_defect_113 ?_
      obtain ⟨hi9, hw⟩ := hw
      refine g_last (wf := MW cI cL cZ hm am) (S' := muDL S8 (mdc S8) (mlo S8)) hx hb hK hP hD hS 14 1 (MWc_14 cI cL cZ hm am S8) rfl rfl hi9 dM_defect_116 (fun S10 eS10 H locs hP hD hS => ?_)
      have hw := hw S10 eS10
      refine lv_aload_n hx hb dM_defect_117 rfl (lv_at hl 0 rfl) ?_
      refine lv_dup hx hb dM_defect_118 rfl ?_
      refine va_get (ci := 2) (v := .int (mdc S10)) (C := RM9) (T := TM9) (N := 24) hx hb hts iM9 hown hK hP 0 (MWc_0 cI cL cZ hm am S10) rfl 15 (by decide) (hto (.fieldLink RM9 115 "PieceTraceModel" "defects" "I") (by decide +kernel)) (fun _ h9 => h9) rfl dM_defect_119 ?_
      refine lv_iconst (v := 1) hx hb dM_defect_122 (by decide) ?_
      refine lv_iadd hx hb dM_defect_123 ?_
      refine g_put (wf := MW cI cL cZ hm am) (S' := msdc S10 ((mdc S10) + 1)) (ci := 2) (v := .int ((mdc S10) + 1)) (ty := .int) (C := RM9) (T := TM9) (N := 24) hx hb hts iM9 tyM9 tyM9_ok nmM9 hown hK hP hD hS 0 (MWc_0 cI cL cZ hm am S10) rfl 15 (by decide) (hto (.fieldLink RM9 115 "PieceTraceModel" "defects" "I") (by decide +kernel)) (fun _ h9 => h9) rfl (by decide +kernel) rfl rfl (Nat.le_of_ble_eq_true rfl) rfl dM_defect_124 (fun S11 eS11 H locs hP hD hS => ?_)
      have hw := hw S11 eS11
      refine lv_aload_n hx hb dM_defect_127 rfl (lv_at hl 0 rfl) ?_
      refine va_get (ci := 2) (v := .int (mdc S11)) (C := RM9) (T := TM9) (N := 24) hx hb hts iM9 hown hK hP 0 (MWc_0 cI cL cZ hm am S11) rfl 15 (by decide) (hto (.fieldLink RM9 115 "PieceTraceModel" "defects" "I") (by decide +kernel)) (fun _ h9 => h9) rfl dM_defect_128 ?_
      refine lv_iconst (v := 1) hx hb dM_defect_131 (by decide) ?_
      refine lv_isub hx hb dM_defect_132 ?_
      exact gr_i hx hb hr hlocks hK hP hD hS hw (Nat.le_of_ble_eq_true rfl) (Nat.le_of_ble_eq_true rfl) dM_defect_133
    · have hw := hw.2 c3
      refine lv_iconst (v := 0) hx hb dM_defect_70 (by decide) ?_
      exact gr_i hx hb hr hlocks hK hP hD hS hw (Nat.le_of_ble_eq_true rfl) (Nat.le_of_ble_eq_true rfl) dM_defect_71
  have hJ49 : ∀ (S : MSt) (t0 : Int32) (t1 : Int32), (t0 = 0 ∨ t0 = 1) → (t1 = 0 ∨ t1 = 1) → ∀ (H : Heap) (locs : List Loc) (ls : Array Slot), wpJ_M_defect_49 post p0 p1 S t0 t1 → va_P D vwCl (MW cI cL cZ hm am S) H → va_D A (MW cI cL cZ hm am S) → va_S A s.heap H locs → lv_has ls 4 [(0, .ref hm), (1, .int p0), (2, .int p1)] → W p l e (headSpec wsM_defect { frames := 2, cells := 0, slots := 0, locals := 50 }).room s m ([.ref hm, .int p0, .int p1] : List Value).toArray below meth c H locs 0 0 (MQ below (gQi D [(cI, .int), (cL, .long), (cZ, .boolean)] (MW cI cL cZ hm am) post A) ([.ref hm, .int p0, .int p1] : List Value).toArray s 0 0 A) (F0 m 49 ls [.int t0, .int t1, .ref hm]) := by
    intro S t0 t1 hbt0 hbt1 H locs ls hw hP hD hS hl
    dsimp only [wpJ_M_defect_49] at hw
    refine lv_aload_n hx hb dM_defect_49 rfl (lv_at hl 0 rfl) ?_
    refine va_get (ci := 2) (v := .int (mdc S)) (C := RM9) (T := TM9) (N := 24) hx hb hts iM9 hown hK hP 0 (MWc_0 cI cL cZ hm am S) rfl 15 (by decide) (hto (.fieldLink RM9 115 "PieceTraceModel" "defects" "I") (by decide +kernel)) (fun _ h9 => h9) rfl dM_defect_50 ?_
    refine lv_bipush (v := 10) hx hb dM_defect_53 (by decide) ?_
    refine lv_icmp_ne (tgt := 62) hx hb dM_defect_55 (by decide) (fun c12 => ?_) (fun c12 => ?_)
    · have hw := hw.2 c12
      refine lv_iconst (v := 0) hx hb dM_defect_62 (by decide) ?_
      exact hJ63 S 0 t0 t1  (Or.inl rfl) hbt0 hbt1 H locs ls hw hP hD hS (lv_sub hl [0, 1, 2] rfl)
    · have hw := hw.1 c12
      refine lv_iconst (v := 1) hx hb dM_defect_58 (by decide) ?_
      refine lv_goto (tgt := 63) hx hb dM_defect_59 (by decide) ?_
      exact hJ63 S 1 t0 t1  (Or.inr rfl) hbt0 hbt1 H locs ls hw hP hD hS (lv_sub hl [0, 1, 2] rfl)
  have hJ48 : ∀ (S : MSt) (t0 : Int32), (t0 = 0 ∨ t0 = 1) → ∀ (H : Heap) (locs : List Loc) (ls : Array Slot), wpJ_M_defect_48 post p0 p1 S t0 → va_P D vwCl (MW cI cL cZ hm am S) H → va_D A (MW cI cL cZ hm am S) → va_S A s.heap H locs → lv_has ls 4 [(0, .ref hm), (1, .int p0), (2, .int p1)] → W p l e (headSpec wsM_defect { frames := 2, cells := 0, slots := 0, locals := 50 }).room s m ([.ref hm, .int p0, .int p1] : List Value).toArray below meth c H locs 0 0 (MQ below (gQi D [(cI, .int), (cL, .long), (cZ, .boolean)] (MW cI cL cZ hm am) post A) ([.ref hm, .int p0, .int p1] : List Value).toArray s 0 0 A) (F0 m 48 ls [.int t0, .ref hm]) := by
    intro S t0 hbt0 H locs ls hw hP hD hS hl
    dsimp only [wpJ_M_defect_48] at hw
    refine lv_iconst (v := 0) hx hb dM_defect_48 (by decide) ?_
    exact hJ49 S 0 t0  (Or.inl rfl) hbt0 H locs ls hw hP hD hS (lv_sub hl [0, 1, 2] rfl)
  have hJ35 : ∀ (S : MSt) (t0 : Int32) (t2 : Int32) (t3 : Int32) (t4 : Int32), (t2 = 0 ∨ t2 = 1) → (t4 = 0 ∨ t4 = 1) → ∀ (H : Heap) (locs : List Loc) (ls : Array Slot), wpJ_M_defect_35 post p0 p1 S t0 t2 t3 t4 → va_P D vwCl (MW cI cL cZ hm am S) H → va_D A (MW cI cL cZ hm am S) → va_S A s.heap H locs → lv_has ls 4 [(0, .ref hm), (1, .int p0), (2, .int p1)] → W p l e (headSpec wsM_defect { frames := 2, cells := 0, slots := 0, locals := 50 }).room s m ([.ref hm, .int p0, .int p1] : List Value).toArray below meth c H locs 0 0 (MQ below (gQi D [(cI, .int), (cL, .long), (cZ, .boolean)] (MW cI cL cZ hm am) post A) ([.ref hm, .int p0, .int p1] : List Value).toArray s 0 0 A) (F0 m 35 ls [.int t0, .ref (am 2), .int t2, .int t3, .int t4, .ref hm]) := by
    intro S t0 t2 t3 t4 hbt2 hbt4 H locs ls hw hP hD hS hl
    dsimp only [wpJ_M_defect_35] at hw
    obtain ⟨hi13, hw⟩ := hw
    refine va_iald (f := (mLe S)) hx hb hK hP 3 0 (MWc_3 cI cL cZ hm am S) rfl hi13 dM_defect_35 ?_
    refine lv_iconst (v := 1) hx hb dM_defect_36 (by decide) ?_
    refine lv_isub hx hb dM_defect_37 ?_
    refine gk_z (wr := []) (wc := MW cI cL cZ hm am S) (wfc := MW cI cL cZ hm am) hP hD hS hA (va_runS (As := [.int t3, .int t2, .int ((mLe S t0.toNatClampNeg) - 1)]) (rest := [.int t4, .ref hm]) C (c_M_in l hl9 D cI cL cZ hm am _ t3 t2 ((mLe S t0.toNatClampNeg) - 1) S hw H.size) (va_cwS 3 hts (gGS (by decide +kernel) kM_in) rfl rfl rfl (by decide +kernel) ⟨Nat.le_of_ble_eq_true rfl, Nat.le_of_ble_eq_true rfl⟩) (g_preS (wr := []) (wc := MW cI cL cZ hm am S) hK hG hA hP hD hS) rfl rfl hl.1 rfl (lv_room (Nat.le_of_ble_eq_true rfl)) dM_defect_38 ⟨Nat.le_of_ble_eq_true rfl, Nat.le_of_ble_eq_true rfl⟩) (fun r15 S14 hbr15 H locs hw hP hD hS => ?_)
    have hP : va_P D vwCl (MW cI cL cZ hm am S14) H := hP
    have hD : va_D A (MW cI cL cZ hm am S14) := hD
    refine lv_if_ne (tgt := 48) hx hb dM_defect_41 (by decide) (fun c16 => ?_) (fun c16 => ?_)
    · have hw := hw.2 c16
      exact hJ48 S14 t4  hbt4 H locs ls hw hP hD hS (lv_sub hl [0, 1, 2] rfl)
    · have hw := hw.1 c16
      refine lv_iconst (v := 1) hx hb dM_defect_44 (by decide) ?_
      refine lv_goto (tgt := 49) hx hb dM_defect_45 (by decide) ?_
      exact hJ49 S14 1 t4  (Or.inr rfl) hbt4 H locs ls hw hP hD hS (lv_sub hl [0, 1, 2] rfl)
  have hJ13 : ∀ (S : MSt) (t0 : Int32), (t0 = 0 ∨ t0 = 1) → ∀ (H : Heap) (locs : List Loc) (ls : Array Slot), wpJ_M_defect_13 post p0 p1 S t0 → va_P D vwCl (MW cI cL cZ hm am S) H → va_D A (MW cI cL cZ hm am S) → va_S A s.heap H locs → lv_has ls 4 [(0, .ref hm), (1, .int p0), (2, .int p1)] → W p l e (headSpec wsM_defect { frames := 2, cells := 0, slots := 0, locals := 50 }).room s m ([.ref hm, .int p0, .int p1] : List Value).toArray below meth c H locs 0 0 (MQ below (gQi D [(cI, .int), (cL, .long), (cZ, .boolean)] (MW cI cL cZ hm am) post A) ([.ref hm, .int p0, .int p1] : List Value).toArray s 0 0 A) (F0 m 13 ls [.int t0]) := by
    intro S t0 hbt0 H locs ls hw hP hD hS hl
    dsimp only [wpJ_M_defect_13] at hw
    refine lv_istore_n (lv' := [(3, .int t0), (0, .ref hm), (1, .int p0), (2, .int p1)]) hx hb dM_defect_13 rfl hl (by decide) rfl (fun ls hl => ?_)
    refine lv_aload_n hx hb dM_defect_14 rfl (lv_at hl 1 rfl) ?_
    refine lv_iload_n hx hb dM_defect_15 rfl (lv_at hl 0 rfl) ?_
    refine lv_iload_n hx hb dM_defect_16 rfl (lv_at hl 0 rfl) ?_
    refine lv_if_ne (tgt := 48) hx hb dM_defect_17 (by decide) (fun c17 => ?_) (fun c17 => ?_)
    · have hw := hw.2 c17
      exact hJ48 S t0  hbt0 H locs ls hw hP hD hS (lv_sub hl [1, 2, 3] rfl)
    · have hw := hw.1 c17
      refine lv_iload_n hx hb dM_defect_20 rfl (lv_at hl 3 rfl) ?_
      refine lv_iconst (v := 0) hx hb dM_defect_21 (by decide) ?_
      refine lv_aload_n hx hb dM_defect_22 rfl (lv_at hl 1 rfl) ?_
      refine va_get (ci := 2) (v := .ref (am 2)) (C := RM9) (T := TM9) (N := 24) hx hb hts iM9 hown hK hP 0 (MWc_0 cI cL cZ hm am S) rfl 4 (by decide) (hto (.fieldLink RM9 16 "PieceTraceModel" "length" "[I") (by decide +kernel)) (fun _ h9 => h9) rfl dM_defect_23 ?_
      refine lv_iload_n hx hb dM_defect_26 rfl (lv_at hl 0 rfl) ?_
      refine lv_if_eq (tgt := 34) hx hb dM_defect_27 (by decide) (fun _ => ?_) (fun c9 => absurd c17 c9)
      refine lv_iload_n hx hb dM_defect_34 rfl (lv_at hl 2 rfl) ?_
      exact hJ35 S p0 0 p1 t0  (Or.inl rfl) hbt0 H locs ls hw hP hD hS (lv_sub hl [1, 2, 3] rfl)
  dsimp only [wp_M_defect] at hw
  refine lv_aload_n hx hb dM_defect_0 rfl (lv_at hl 0 rfl) ?_
  refine lv_iload_n hx hb dM_defect_1 rfl (lv_at hl 1 rfl) ?_
  refine gk_z (wr := []) (wc := MW cI cL cZ hm am S) (wfc := MW cI cL cZ hm am) hP hD hS hA (va_runV (As := [.int p0]) (rest := []) C (c_M_isPiece l hl9 D cI cL cZ hm am _ p0 S hw H.size) (cwV 1 hts (gGV (by decide +kernel) kM_isPiece) rfl rfl rfl (by decide +kernel) ⟨Nat.le_of_ble_eq_true rfl, Nat.le_of_ble_eq_true rfl⟩) (g_preV (wr := []) (wc := MW cI cL cZ hm am S) (ci := 2) hK hG hA hP hD hS rfl (MWc_0 cI cL cZ hm am S) rfl) rfl rfl hl.1 rfl (lv_room (Nat.le_of_ble_eq_true rfl)) dM_defect_2 ⟨Nat.le_of_ble_eq_true rfl, Nat.le_of_ble_eq_true rfl⟩) (fun r19 S18 hbr19 H locs hw hP hD hS => ?_)
  have hP : va_P D vwCl (MW cI cL cZ hm am S18) H := hP
  have hD : va_D A (MW cI cL cZ hm am S18) := hD
  refine lv_if_ne (tgt := 12) hx hb dM_defect_5 (by decide) (fun c20 => ?_) (fun c20 => ?_)
  · have hw := hw.2 c20
    refine lv_iconst (v := 0) hx hb dM_defect_12 (by decide) ?_
    exact hJ13 S18 0  (Or.inl rfl) H locs ls hw hP hD hS (lv_sub hl [0, 1, 2] rfl)
  · have hw := hw.1 c20
    refine lv_iconst (v := 1) hx hb dM_defect_8 (by decide) ?_
    refine lv_goto (tgt := 13) hx hb dM_defect_9 (by decide) ?_
    exact hJ13 S18 1  (Or.inr rfl) H locs ls hw hP hD hS (lv_sub hl [0, 1, 2] rfl)
def wpJ_M_has_83 (post : Int64 → MSt → Prop) (p0 : Int32) (p1 : Int32) (p2 : Int32) (S : MSt) (t0 : Int64) : Prop := (post t0 S)
def wpJ_M_has_31 (post : Int64 → MSt → Prop) (p0 : Int32) (p1 : Int32) (p2 : Int32) (S : MSt) (t0 : Int32) : Prop := (wp_M_throwing (fun r2 S1 => ((r2 = 0 → (wp_M_goForward (fun  S4 => (vp_in p1 40 ∧ ((0 ≤ (mFU S4 p1.toNatClampNeg) → ((p2 = 0 → (vp_in p1 40 ∧ (wpJ_M_has_83 post p0 p1 p2 S4 (mFU S4 p1.toNatClampNeg)))) ∧ (¬ p2 = 0 → (vp_in p1 40 ∧ (wpJ_M_has_83 post p0 p1 p2 S4 (mFL S4 p1.toNatClampNeg)))))) ∧ (¬ 0 ≤ (mFU S4 p1.toNatClampNeg) → (wpJ_M_has_83 post p0 p1 p2 S4 (-1)))))) p0 S1)) ∧ (¬ r2 = 0 → (post 0 S1)))) t0 0 0 0 S)
def wpJ_M_has_26 (post : Int64 → MSt → Prop) (p0 : Int32) (p1 : Int32) (p2 : Int32) (S : MSt)  : Prop := (wpJ_M_has_31 post p0 p1 p2 S 1)
def wp_M_has (post : Int64 → MSt → Prop) (p0 : Int32) (p1 : Int32) (p2 : Int32) (S : MSt) : Prop := (wp_M_isDefect (fun r11 S10 => ((r11 = 0 → (wpJ_M_has_26 post p0 p1 p2 S10 )) ∧ (¬ r11 = 0 → (wp_M_isPiece (fun r14 S13 => ((r14 = 0 → (wpJ_M_has_26 post p0 p1 p2 S13 )) ∧ (¬ r14 = 0 → (wp_M_in (fun r17 S16 => ((r17 = 0 → (wpJ_M_has_26 post p0 p1 p2 S16 )) ∧ (¬ r17 = 0 → (wpJ_M_has_31 post p0 p1 p2 S16 0)))) p2 0 1 S13)))) p1 S10)))) p0 S)
set_option maxHeartbeats 4000000 in
set_option maxRecDepth 100000 in
theorem c_M_has (l : Launch) (hl9 : l.stackTraces = false) (D : va_G) (cI cL cZ : ClassId) (hm : Nat) (am : Nat → Nat) (post : Int64 → MSt → Prop) (p0 : Int32) (p1 : Int32) (p2 : Int32) (S : MSt) (hw : wp_M_has post p0 p1 p2 S) : gMl l yM_has wsM_has ({ frames := 3, cells := 0, slots := 0, locals := 65 }) D [(cI, .int), (cL, .long), (cZ, .boolean)] [.ref hm, .int p0, .int p1, .int p2] (MW cI cL cZ hm am S) (MW cI cL cZ hm am) post := by
  refine g_ofMl (cc := cM_has) (maxL := 4) (ret := (some .long)) (own := RM9) (by decide) rfl rfl (Nat.le_of_ble_eq_true rfl) ?_
  intro p e s m below meth c A H locs ls C hr hlocks hK hG hA hP hD hS hl
  obtain ⟨hx, hb, hml, hown, hts⟩ := id C
  have hts := fun w (h9 : w ∈ gW) => hts w (List.mem_cons_of_mem _ h9)
  have hto := fun w (h9 : w ∈ gWo) => hts w (gWo_in w h9)
  have hl : lv_has ls 4 [(0, .ref hm), (1, .int p0), (2, .int p1), (3, .int p2)] := hl
  have hJ83 : ∀ (S : MSt) (t0 : Int64), ∀ (H : Heap) (locs : List Loc) (ls : Array Slot), wpJ_M_has_83 post p0 p1 p2 S t0 → va_P D vwCl (MW cI cL cZ hm am S) H → va_D A (MW cI cL cZ hm am S) → va_S A s.heap H locs → lv_has ls 4 [] → W p l e (headSpec wsM_has { frames := 3, cells := 0, slots := 0, locals := 65 }).room s m ([.ref hm, .int p0, .int p1, .int p2] : List Value).toArray below meth c H locs 0 0 (MQ below (gQl D [(cI, .int), (cL, .long), (cZ, .boolean)] (MW cI cL cZ hm am) post A) ([.ref hm, .int p0, .int p1, .int p2] : List Value).toArray s 0 0 A) (F0 m 83 ls [.long t0]) := by
    intro S t0  H locs ls hw hP hD hS hl
    dsimp only [wpJ_M_has_83] at hw
    exact gr_l hx hb hr hlocks hK hP hD hS hw (Nat.le_of_ble_eq_true rfl) (Nat.le_of_ble_eq_true rfl) dM_has_83
  have hJ31 : ∀ (S : MSt) (t0 : Int32), (t0 = 0 ∨ t0 = 1) → ∀ (H : Heap) (locs : List Loc) (ls : Array Slot), wpJ_M_has_31 post p0 p1 p2 S t0 → va_P D vwCl (MW cI cL cZ hm am S) H → va_D A (MW cI cL cZ hm am S) → va_S A s.heap H locs → lv_has ls 4 [(0, .ref hm), (1, .int p0), (2, .int p1), (3, .int p2)] → W p l e (headSpec wsM_has { frames := 3, cells := 0, slots := 0, locals := 65 }).room s m ([.ref hm, .int p0, .int p1, .int p2] : List Value).toArray below meth c H locs 0 0 (MQ below (gQl D [(cI, .int), (cL, .long), (cZ, .boolean)] (MW cI cL cZ hm am) post A) ([.ref hm, .int p0, .int p1, .int p2] : List Value).toArray s 0 0 A) (F0 m 31 ls [.int t0, .ref hm]) := by
    intro S t0 hbt0 H locs ls hw hP hD hS hl
    dsimp only [wpJ_M_has_31] at hw
    refine lv_iconst (v := 0) hx hb dM_has_31 (by decide) ?_
    refine lv_iconst (v := 0) hx hb dM_has_32 (by decide) ?_
    refine lv_iconst (v := 0) hx hb dM_has_33 (by decide) ?_
    refine gk_z (wr := []) (wc := MW cI cL cZ hm am S) (wfc := MW cI cL cZ hm am) hP hD hS hA (va_runV (As := [.int t0, .int 0, .int 0, .int 0]) (rest := []) C (c_M_throwing l hl9 D cI cL cZ hm am _ t0 0 0 0 S hw H.size) (cwV 4 hts (gGV (by decide +kernel) kM_throwing) rfl rfl rfl (by decide +kernel) ⟨Nat.le_of_ble_eq_true rfl, Nat.le_of_ble_eq_true rfl⟩) (g_preV (wr := []) (wc := MW cI cL cZ hm am S) (ci := 2) hK hG hA hP hD hS rfl (MWc_0 cI cL cZ hm am S) rfl) rfl rfl hl.1 rfl (lv_room (Nat.le_of_ble_eq_true rfl)) dM_has_34 ⟨Nat.le_of_ble_eq_true rfl, Nat.le_of_ble_eq_true rfl⟩) (fun r2 S1 hbr2 H locs hw hP hD hS => ?_)
    have hP : va_P D vwCl (MW cI cL cZ hm am S1) H := hP
    have hD : va_D A (MW cI cL cZ hm am S1) := hD
    refine lv_if_eq (tgt := 42) hx hb dM_has_37 (by decide) (fun c3 => ?_) (fun c3 => ?_)
    · have hw := hw.1 c3
      refine lv_aload_n hx hb dM_has_42 rfl (lv_at hl 0 rfl) ?_
      refine lv_iload_n hx hb dM_has_43 rfl (lv_at hl 1 rfl) ?_
      refine gk_v (wr := []) (wc := MW cI cL cZ hm am S1) (wfc := MW cI cL cZ hm am) hP hD hS hA (va_runV (As := [.int p0]) (rest := []) C (c_M_goForward l hl9 D cI cL cZ hm am _ p0 S1 hw H.size) (cwV 1 hts (gGV (by decide +kernel) kM_goForward) rfl rfl rfl (by decide +kernel) ⟨Nat.le_of_ble_eq_true rfl, Nat.le_of_ble_eq_true rfl⟩) (g_preV (wr := []) (wc := MW cI cL cZ hm am S1) (ci := 2) hK hG hA hP hD hS rfl (MWc_0 cI cL cZ hm am S1) rfl) rfl rfl hl.1 rfl (lv_room (Nat.le_of_ble_eq_true rfl)) dM_has_44 ⟨Nat.le_of_ble_eq_true rfl, Nat.le_of_ble_eq_true rfl⟩) (fun  S4 H locs hw hP hD hS => ?_)
      have hP : va_P D vwCl (MW cI cL cZ hm am S4) H := hP
      have hD : va_D A (MW cI cL cZ hm am S4) := hD
      refine lv_aload_n hx hb dM_has_47 rfl (lv_at hl 0 rfl) ?_
      refine va_get (ci := 2) (v := .ref (am 14)) (C := RM9) (T := TM9) (N := 24) hx hb hts iM9 hown hK hP 0 (MWc_0 cI cL cZ hm am S4) rfl 22 (by decide) (hto (.fieldLink RM9 54 "PieceTraceModel" "ups" "[J") (by decide +kernel)) (fun _ h9 => h9) rfl dM_has_48 ?_
      refine lv_iload_n hx hb dM_has_51 rfl (lv_at hl 2 rfl) ?_
      obtain ⟨hi5, hw⟩ := hw
      refine va_lald (f := (mFU S4)) hx hb hK hP 15 1 (MWc_15 cI cL cZ hm am S4) rfl hi5 dM_has_52 ?_
      refine lv_lconst (v := 0) hx hb dM_has_53 (by decide) ?_
      refine W.lcmp hx hb dM_has_54 ?_
      refine lv_if_ge (tgt := 64) hx hb dM_has_55 (by decide) (fun c6 => ?_) (fun c6 => ?_)
      · have c6 : 0 ≤ (mFU S4 p1.toNatClampNeg) := (lg_cmp_ge _ _).mp c6
        have hw := hw.1 c6
        refine lv_iload_n hx hb dM_has_64 rfl (lv_at hl 3 rfl) ?_
        refine lv_if_ne (tgt := 77) hx hb dM_has_65 (by decide) (fun c7 => ?_) (fun c7 => ?_)
        · have hw := hw.2 c7
          refine lv_aload_n hx hb dM_has_77 rfl (lv_at hl 0 rfl) ?_
          refine va_get (ci := 2) (v := .ref (am 15)) (C := RM9) (T := TM9) (N := 24) hx hb hts iM9 hown hK hP 0 (MWc_0 cI cL cZ hm am S4) rfl 23 (by decide) (hto (.fieldLink RM9 57 "PieceTraceModel" "lows" "[J") (by decide +kernel)) (fun _ h9 => h9) rfl dM_has_78 ?_
          refine lv_iload_n hx hb dM_has_81 rfl (lv_at hl 2 rfl) ?_
          obtain ⟨hi8, hw⟩ := hw
          refine va_lald (f := (mFL S4)) hx hb hK hP 16 1 (MWc_16 cI cL cZ hm am S4) rfl hi8 dM_has_82 ?_
          exact hJ83 S4 (mFL S4 p1.toNatClampNeg)   H locs ls hw hP hD hS (lv_sub hl [] rfl)
        · have hw := hw.1 c7
          refine lv_aload_n hx hb dM_has_68 rfl (lv_at hl 0 rfl) ?_
          refine va_get (ci := 2) (v := .ref (am 14)) (C := RM9) (T := TM9) (N := 24) hx hb hts iM9 hown hK hP 0 (MWc_0 cI cL cZ hm am S4) rfl 22 (by decide) (hto (.fieldLink RM9 54 "PieceTraceModel" "ups" "[J") (by decide +kernel)) (fun _ h9 => h9) rfl dM_has_69 ?_
          refine lv_iload_n hx hb dM_has_72 rfl (lv_at hl 2 rfl) ?_
          obtain ⟨hi9, hw⟩ := hw
          refine va_lald (f := (mFU S4)) hx hb hK hP 15 1 (MWc_15 cI cL cZ hm am S4) rfl hi9 dM_has_73 ?_
          refine lv_goto (tgt := 83) hx hb dM_has_74 (by decide) ?_
          exact hJ83 S4 (mFU S4 p1.toNatClampNeg)   H locs ls hw hP hD hS (lv_sub hl [] rfl)
      · have c6 : ¬ 0 ≤ (mFU S4 p1.toNatClampNeg) := fun h9 => c6 ((lg_cmp_ge _ _).mpr h9)
        have hw := hw.2 c6
        refine lv_ldc2 (v := (-1)) hx hb hown (hto (.constantLong RM9 124 (-1)) (by decide +kernel)) dM_has_58 ?_
        refine lv_goto (tgt := 83) hx hb dM_has_61 (by decide) ?_
        exact hJ83 S4 (-1)   H locs ls hw hP hD hS (lv_sub hl [] rfl)
    · have hw := hw.2 c3
      refine lv_lconst (v := 0) hx hb dM_has_40 (by decide) ?_
      exact gr_l hx hb hr hlocks hK hP hD hS hw (Nat.le_of_ble_eq_true rfl) (Nat.le_of_ble_eq_true rfl) dM_has_41
  have hJ26 : ∀ (S : MSt) , ∀ (H : Heap) (locs : List Loc) (ls : Array Slot), wpJ_M_has_26 post p0 p1 p2 S  → va_P D vwCl (MW cI cL cZ hm am S) H → va_D A (MW cI cL cZ hm am S) → va_S A s.heap H locs → lv_has ls 4 [(0, .ref hm), (1, .int p0), (2, .int p1), (3, .int p2)] → W p l e (headSpec wsM_has { frames := 3, cells := 0, slots := 0, locals := 65 }).room s m ([.ref hm, .int p0, .int p1, .int p2] : List Value).toArray below meth c H locs 0 0 (MQ below (gQl D [(cI, .int), (cL, .long), (cZ, .boolean)] (MW cI cL cZ hm am) post A) ([.ref hm, .int p0, .int p1, .int p2] : List Value).toArray s 0 0 A) (F0 m 26 ls [.ref hm]) := by
    intro S   H locs ls hw hP hD hS hl
    dsimp only [wpJ_M_has_26] at hw
    refine lv_iconst (v := 1) hx hb dM_has_26 (by decide) ?_
    refine lv_goto (tgt := 31) hx hb dM_has_27 (by decide) ?_
    exact hJ31 S 1  (Or.inr rfl) H locs ls hw hP hD hS (lv_sub hl [0, 1, 2, 3] rfl)
  dsimp only [wp_M_has] at hw
  refine lv_aload_n hx hb dM_has_0 rfl (lv_at hl 0 rfl) ?_
  refine lv_aload_n hx hb dM_has_1 rfl (lv_at hl 0 rfl) ?_
  refine lv_iload_n hx hb dM_has_2 rfl (lv_at hl 1 rfl) ?_
  refine gk_z (wr := []) (wc := MW cI cL cZ hm am S) (wfc := MW cI cL cZ hm am) hP hD hS hA (va_runV (As := [.int p0]) (rest := [.ref hm]) C (c_M_isDefect l hl9 D cI cL cZ hm am _ p0 S hw H.size) (cwV 1 hts (gGV (by decide +kernel) kM_isDefect) rfl rfl rfl (by decide +kernel) ⟨Nat.le_of_ble_eq_true rfl, Nat.le_of_ble_eq_true rfl⟩) (g_preV (wr := []) (wc := MW cI cL cZ hm am S) (ci := 2) hK hG hA hP hD hS rfl (MWc_0 cI cL cZ hm am S) rfl) rfl rfl hl.1 rfl (lv_room (Nat.le_of_ble_eq_true rfl)) dM_has_3 ⟨Nat.le_of_ble_eq_true rfl, Nat.le_of_ble_eq_true rfl⟩) (fun r11 S10 hbr11 H locs hw hP hD hS => ?_)
  have hP : va_P D vwCl (MW cI cL cZ hm am S10) H := hP
  have hD : va_D A (MW cI cL cZ hm am S10) := hD
  refine lv_if_eq (tgt := 26) hx hb dM_has_6 (by decide) (fun c12 => ?_) (fun c12 => ?_)
  · have hw := hw.1 c12
    exact hJ26 S10    H locs ls hw hP hD hS (lv_sub hl [0, 1, 2, 3] rfl)
  · have hw := hw.2 c12
    refine lv_aload_n hx hb dM_has_9 rfl (lv_at hl 0 rfl) ?_
    refine lv_iload_n hx hb dM_has_10 rfl (lv_at hl 2 rfl) ?_
    refine gk_z (wr := []) (wc := MW cI cL cZ hm am S10) (wfc := MW cI cL cZ hm am) hP hD hS hA (va_runV (As := [.int p1]) (rest := [.ref hm]) C (c_M_isPiece l hl9 D cI cL cZ hm am _ p1 S10 hw H.size) (cwV 1 hts (gGV (by decide +kernel) kM_isPiece) rfl rfl rfl (by decide +kernel) ⟨Nat.le_of_ble_eq_true rfl, Nat.le_of_ble_eq_true rfl⟩) (g_preV (wr := []) (wc := MW cI cL cZ hm am S10) (ci := 2) hK hG hA hP hD hS rfl (MWc_0 cI cL cZ hm am S10) rfl) rfl rfl hl.1 rfl (lv_room (Nat.le_of_ble_eq_true rfl)) dM_has_11 ⟨Nat.le_of_ble_eq_true rfl, Nat.le_of_ble_eq_true rfl⟩) (fun r14 S13 hbr14 H locs hw hP hD hS => ?_)
    have hP : va_P D vwCl (MW cI cL cZ hm am S13) H := hP
    have hD : va_D A (MW cI cL cZ hm am S13) := hD
    refine lv_if_eq (tgt := 26) hx hb dM_has_14 (by decide) (fun c15 => ?_) (fun c15 => ?_)
    · have hw := hw.1 c15
      exact hJ26 S13    H locs ls hw hP hD hS (lv_sub hl [0, 1, 2, 3] rfl)
    · have hw := hw.2 c15
      refine lv_iload_n hx hb dM_has_17 rfl (lv_at hl 3 rfl) ?_
      refine lv_iconst (v := 0) hx hb dM_has_18 (by decide) ?_
      refine lv_iconst (v := 1) hx hb dM_has_19 (by decide) ?_
      refine gk_z (wr := []) (wc := MW cI cL cZ hm am S13) (wfc := MW cI cL cZ hm am) hP hD hS hA (va_runS (As := [.int p2, .int 0, .int 1]) (rest := [.ref hm]) C (c_M_in l hl9 D cI cL cZ hm am _ p2 0 1 S13 hw H.size) (va_cwS 3 hts (gGS (by decide +kernel) kM_in) rfl rfl rfl (by decide +kernel) ⟨Nat.le_of_ble_eq_true rfl, Nat.le_of_ble_eq_true rfl⟩) (g_preS (wr := []) (wc := MW cI cL cZ hm am S13) hK hG hA hP hD hS) rfl rfl hl.1 rfl (lv_room (Nat.le_of_ble_eq_true rfl)) dM_has_20 ⟨Nat.le_of_ble_eq_true rfl, Nat.le_of_ble_eq_true rfl⟩) (fun r17 S16 hbr17 H locs hw hP hD hS => ?_)
      have hP : va_P D vwCl (MW cI cL cZ hm am S16) H := hP
      have hD : va_D A (MW cI cL cZ hm am S16) := hD
      refine lv_if_ne (tgt := 30) hx hb dM_has_23 (by decide) (fun c18 => ?_) (fun c18 => ?_)
      · have hw := hw.2 c18
        refine lv_iconst (v := 0) hx hb dM_has_30 (by decide) ?_
        exact hJ31 S16 0  (Or.inl rfl) H locs ls hw hP hD hS (lv_sub hl [0, 1, 2, 3] rfl)
      · have hw := hw.1 c18
        exact hJ26 S16    H locs ls hw hP hD hS (lv_sub hl [0, 1, 2, 3] rfl)
def wpJ_M_recall_81 (post : Int32 → MSt → Prop) (p0 : Int32) (p1 : Int32) (K : MSt → Int32 → Int32 → Prop) (S : MSt) (u3 : Int32) (u4 : Int32) : Prop := (∀ v4_1 : Int32, v4_1 = u4 + 1 → (K S u3 v4_1))
def wpB_M_recall_39 (post : Int32 → MSt → Prop) (p0 : Int32) (p1 : Int32) (K : MSt → Int32 → Int32 → Prop) (S : MSt) (u3 : Int32) (u4 : Int32) : Prop := (((mpc S) ≤ u4 → (post (-1) S)) ∧ (¬ (mpc S) ≤ u4 → (vp_in u4 40 ∧ (((mSt S u4.toNatClampNeg) = 0 → (vp_in u4 40 ∧ (((mFU S u4.toNatClampNeg) < 0 → (wpJ_M_recall_81 post p0 p1 K S u3 u4)) ∧ (¬ (mFU S u4.toNatClampNeg) < 0 → ((u3 = p1 → (post u4 S)) ∧ (¬ u3 = p1 → (∀ v3_8 : Int32, v3_8 = u3 + 1 → (wpJ_M_recall_81 post p0 p1 K S v3_8 u4)))))))) ∧ (¬ (mSt S u4.toNatClampNeg) = 0 → (wpJ_M_recall_81 post p0 p1 K S u3 u4))))))
def wpL_M_recall_39 (post : Int32 → MSt → Prop) (p0 : Int32) (p1 : Int32) : Nat → MSt → Int32 → Int32 → Prop
  | 0 => fun _ _ _ => False
  | n + 1 => fun S u3 u4 => wpB_M_recall_39 post p0 p1 (wpL_M_recall_39 post p0 p1 n) S u3 u4
def wpJ_M_recall_18 (post : Int32 → MSt → Prop) (p0 : Int32) (p1 : Int32) (S : MSt) (t0 : Int32) : Prop := (wp_M_throwing (fun r10 S9 => ((r10 = 0 → (wp_M_goForward (fun  S12 => (∃ n : Nat, wpL_M_recall_39 post p0 p1 n S12 0 0)) p0 S9)) ∧ (¬ r10 = 0 → (post 0 S9)))) t0 0 0 0 S)
def wpJ_M_recall_13 (post : Int32 → MSt → Prop) (p0 : Int32) (p1 : Int32) (S : MSt)  : Prop := (wpJ_M_recall_18 post p0 p1 S 1)
def wp_M_recall (post : Int32 → MSt → Prop) (p0 : Int32) (p1 : Int32) (S : MSt) : Prop := (wp_M_isDefect (fun r14 S13 => ((r14 = 0 → (wpJ_M_recall_13 post p0 p1 S13 )) ∧ (¬ r14 = 0 → ((0 ≤ p1 → (wpJ_M_recall_18 post p0 p1 S13 0)) ∧ (¬ 0 ≤ p1 → (wpJ_M_recall_13 post p0 p1 S13 )))))) p0 S)
set_option maxHeartbeats 4000000 in
set_option maxRecDepth 100000 in
theorem c_M_recall (l : Launch) (hl9 : l.stackTraces = false) (D : va_G) (cI cL cZ : ClassId) (hm : Nat) (am : Nat → Nat) (post : Int32 → MSt → Prop) (p0 : Int32) (p1 : Int32) (S : MSt) (hw : wp_M_recall post p0 p1 S) : gMi l yM_recall wsM_recall ({ frames := 3, cells := 0, slots := 0, locals := 65 }) D [(cI, .int), (cL, .long), (cZ, .boolean)] [.ref hm, .int p0, .int p1] (MW cI cL cZ hm am S) (MW cI cL cZ hm am) post := by
  refine g_ofMi (cc := cM_recall) (maxL := 5) (ret := (some .int)) (own := RM9) (by decide) rfl rfl (Nat.le_of_ble_eq_true rfl) ?_
  intro p e s m below meth c A H locs ls C hr hlocks hK hG hA hP hD hS hl
  obtain ⟨hx, hb, hml, hown, hts⟩ := id C
  have hts := fun w (h9 : w ∈ gW) => hts w (List.mem_cons_of_mem _ h9)
  have hto := fun w (h9 : w ∈ gWo) => hts w (gWo_in w h9)
  have hl : lv_has ls 5 [(0, .ref hm), (1, .int p0), (2, .int p1)] := hl
  have hJ39 : ∀ (S : MSt) (u3 : Int32) (u4 : Int32) (H : Heap) (locs : List Loc) (ls : Array Slot), (∃ n : Nat, wpL_M_recall_39 post p0 p1 n S u3 u4) → va_P D vwCl (MW cI cL cZ hm am S) H → va_D A (MW cI cL cZ hm am S) → va_S A s.heap H locs → lv_has ls 5 [(3, .int u3), (4, .int u4), (0, .ref hm), (2, .int p1)] → W p l e (headSpec wsM_recall { frames := 3, cells := 0, slots := 0, locals := 65 }).room s m ([.ref hm, .int p0, .int p1] : List Value).toArray below meth c H locs 0 0 (MQ below (gQi D [(cI, .int), (cL, .long), (cZ, .boolean)] (MW cI cL cZ hm am) post A) ([.ref hm, .int p0, .int p1] : List Value).toArray s 0 0 A) (F0 m 39 ls []) := by
    intro S u3 u4 H locs ls hw
    obtain ⟨n, hw⟩ := hw
    revert S u3 u4 H locs ls
    induction n with
    | zero => intro S u3 u4 H locs ls hw; exact hw.elim
    | succ n ih =>
      have hJ81 : ∀ (S : MSt) (u3 : Int32) (u4 : Int32), ∀ (H : Heap) (locs : List Loc) (ls : Array Slot), wpJ_M_recall_81 post p0 p1 (wpL_M_recall_39 post p0 p1 n) S u3 u4 → va_P D vwCl (MW cI cL cZ hm am S) H → va_D A (MW cI cL cZ hm am S) → va_S A s.heap H locs → lv_has ls 5 [(3, .int u3), (4, .int u4), (0, .ref hm), (2, .int p1)] → W p l e (headSpec wsM_recall { frames := 3, cells := 0, slots := 0, locals := 65 }).room s m ([.ref hm, .int p0, .int p1] : List Value).toArray below meth c H locs 0 0 (MQ below (gQi D [(cI, .int), (cL, .long), (cZ, .boolean)] (MW cI cL cZ hm am) post A) ([.ref hm, .int p0, .int p1] : List Value).toArray s 0 0 A) (F0 m 81 ls []) := by
        intro S u3 u4  H locs ls hw hP hD hS hl
        dsimp only [wpJ_M_recall_81] at hw
        obtain ⟨v4_1, ev4_1⟩ : ∃ y : Int32, y = u4 + 1 := ⟨_, rfl⟩
        have hw := hw v4_1 ev4_1
        refine lv_iinc (v := v4_1) (lv' := [(4, .int v4_1), (3, .int u3), (0, .ref hm), (2, .int p1)]) hx hb dM_recall_81 hl (k := 1) rfl (by rw [ev4_1]; rfl) (by decide) rfl (fun ls hl => ?_)
        refine lv_goto (tgt := 39) hx hb dM_recall_84 (by decide) ?_
        exact ih S u3 v4_1 H locs ls hw hP hD hS (lv_sub hl [1, 0, 2, 3] rfl)
      intro S u3 u4 H locs ls hw hP hD hS hl
      dsimp only [wpL_M_recall_39, wpB_M_recall_39] at hw
      refine lv_iload hx hb dM_recall_39 (lv_at hl 1 rfl) ?_
      refine lv_aload_n hx hb dM_recall_41 rfl (lv_at hl 2 rfl) ?_
      refine va_get (ci := 2) (v := .int (mpc S)) (C := RM9) (T := TM9) (N := 24) hx hb hts iM9 hown hK hP 0 (MWc_0 cI cL cZ hm am S) rfl 1 (by decide) (hto (.fieldLink RM9 64 "PieceTraceModel" "pieces" "I") (by decide +kernel)) (fun _ h9 => h9) rfl dM_recall_42 ?_
      refine lv_icmp_ge (tgt := 87) hx hb dM_recall_45 (by decide) (fun c2 => ?_) (fun c2 => ?_)
      · have hw := hw.1 c2
        refine lv_iconst (v := -1) hx hb dM_recall_87 (by decide) ?_
        exact gr_i hx hb hr hlocks hK hP hD hS hw (Nat.le_of_ble_eq_true rfl) (Nat.le_of_ble_eq_true rfl) dM_recall_88
      · have hw := hw.2 c2
        refine lv_aload_n hx hb dM_recall_48 rfl (lv_at hl 2 rfl) ?_
        refine va_get (ci := 2) (v := .ref (am 3)) (C := RM9) (T := TM9) (N := 24) hx hb hts iM9 hown hK hP 0 (MWc_0 cI cL cZ hm am S) rfl 5 (by decide) (hto (.fieldLink RM9 19 "PieceTraceModel" "state" "[I") (by decide +kernel)) (fun _ h9 => h9) rfl dM_recall_49 ?_
        refine lv_iload hx hb dM_recall_52 (lv_at hl 1 rfl) ?_
        obtain ⟨hi3, hw⟩ := hw
        refine va_iald (f := (mSt S)) hx hb hK hP 4 0 (MWc_4 cI cL cZ hm am S) rfl hi3 dM_recall_54 ?_
        refine lv_if_ne (tgt := 81) hx hb dM_recall_55 (by decide) (fun c4 => ?_) (fun c4 => ?_)
        · have hw := hw.2 c4
          exact hJ81 S u3 u4   H locs ls hw hP hD hS (lv_sub hl [0, 1, 2, 3] rfl)
        · have hw := hw.1 c4
          refine lv_aload_n hx hb dM_recall_58 rfl (lv_at hl 2 rfl) ?_
          refine va_get (ci := 2) (v := .ref (am 14)) (C := RM9) (T := TM9) (N := 24) hx hb hts iM9 hown hK hP 0 (MWc_0 cI cL cZ hm am S) rfl 22 (by decide) (hto (.fieldLink RM9 54 "PieceTraceModel" "ups" "[J") (by decide +kernel)) (fun _ h9 => h9) rfl dM_recall_59 ?_
          refine lv_iload hx hb dM_recall_62 (lv_at hl 1 rfl) ?_
          obtain ⟨hi5, hw⟩ := hw
          refine va_lald (f := (mFU S)) hx hb hK hP 15 1 (MWc_15 cI cL cZ hm am S) rfl hi5 dM_recall_64 ?_
          refine lv_lconst (v := 0) hx hb dM_recall_65 (by decide) ?_
          refine W.lcmp hx hb dM_recall_66 ?_
          refine lv_if_lt (tgt := 81) hx hb dM_recall_67 (by decide) (fun c6 => ?_) (fun c6 => ?_)
          · have c6 : (mFU S u4.toNatClampNeg) < 0 := (lg_cmp_lt _ _).mp c6
            have hw := hw.1 c6
            exact hJ81 S u3 u4   H locs ls hw hP hD hS (lv_sub hl [0, 1, 2, 3] rfl)
          · have c6 : ¬ (mFU S u4.toNatClampNeg) < 0 := fun h9 => c6 ((lg_cmp_lt _ _).mpr h9)
            have hw := hw.2 c6
            refine lv_iload_n hx hb dM_recall_70 rfl (lv_at hl 0 rfl) ?_
            refine lv_iload_n hx hb dM_recall_71 rfl (lv_at hl 3 rfl) ?_
            refine lv_icmp_ne (tgt := 78) hx hb dM_recall_72 (by decide) (fun c7 => ?_) (fun c7 => ?_)
            · have hw := hw.2 c7
              obtain ⟨v3_8, ev3_8⟩ : ∃ y : Int32, y = u3 + 1 := ⟨_, rfl⟩
              have hw := hw v3_8 ev3_8
              refine lv_iinc (v := v3_8) (lv' := [(3, .int v3_8), (4, .int u4), (0, .ref hm), (2, .int p1)]) hx hb dM_recall_78 hl (k := 0) rfl (by rw [ev3_8]; rfl) (by decide) rfl (fun ls hl => ?_)
              exact hJ81 S v3_8 u4   H locs ls hw hP hD hS (lv_sub hl [0, 1, 2, 3] rfl)
            · have hw := hw.1 c7
              refine lv_iload hx hb dM_recall_75 (lv_at hl 1 rfl) ?_
              exact gr_i hx hb hr hlocks hK hP hD hS hw (Nat.le_of_ble_eq_true rfl) (Nat.le_of_ble_eq_true rfl) dM_recall_77
  have hJ18 : ∀ (S : MSt) (t0 : Int32), (t0 = 0 ∨ t0 = 1) → ∀ (H : Heap) (locs : List Loc) (ls : Array Slot), wpJ_M_recall_18 post p0 p1 S t0 → va_P D vwCl (MW cI cL cZ hm am S) H → va_D A (MW cI cL cZ hm am S) → va_S A s.heap H locs → lv_has ls 5 [(0, .ref hm), (1, .int p0), (2, .int p1)] → W p l e (headSpec wsM_recall { frames := 3, cells := 0, slots := 0, locals := 65 }).room s m ([.ref hm, .int p0, .int p1] : List Value).toArray below meth c H locs 0 0 (MQ below (gQi D [(cI, .int), (cL, .long), (cZ, .boolean)] (MW cI cL cZ hm am) post A) ([.ref hm, .int p0, .int p1] : List Value).toArray s 0 0 A) (F0 m 18 ls [.int t0, .ref hm]) := by
    intro S t0 hbt0 H locs ls hw hP hD hS hl
    dsimp only [wpJ_M_recall_18] at hw
    refine lv_iconst (v := 0) hx hb dM_recall_18 (by decide) ?_
    refine lv_iconst (v := 0) hx hb dM_recall_19 (by decide) ?_
    refine lv_iconst (v := 0) hx hb dM_recall_20 (by decide) ?_
    refine gk_z (wr := []) (wc := MW cI cL cZ hm am S) (wfc := MW cI cL cZ hm am) hP hD hS hA (va_runV (As := [.int t0, .int 0, .int 0, .int 0]) (rest := []) C (c_M_throwing l hl9 D cI cL cZ hm am _ t0 0 0 0 S hw H.size) (cwV 4 hts (gGV (by decide +kernel) kM_throwing) rfl rfl rfl (by decide +kernel) ⟨Nat.le_of_ble_eq_true rfl, Nat.le_of_ble_eq_true rfl⟩) (g_preV (wr := []) (wc := MW cI cL cZ hm am S) (ci := 2) hK hG hA hP hD hS rfl (MWc_0 cI cL cZ hm am S) rfl) rfl rfl hl.1 rfl (lv_room (Nat.le_of_ble_eq_true rfl)) dM_recall_21 ⟨Nat.le_of_ble_eq_true rfl, Nat.le_of_ble_eq_true rfl⟩) (fun r10 S9 hbr10 H locs hw hP hD hS => ?_)
    have hP : va_P D vwCl (MW cI cL cZ hm am S9) H := hP
    have hD : va_D A (MW cI cL cZ hm am S9) := hD
    refine lv_if_eq (tgt := 29) hx hb dM_recall_24 (by decide) (fun c11 => ?_) (fun c11 => ?_)
    · have hw := hw.1 c11
      refine lv_aload_n hx hb dM_recall_29 rfl (lv_at hl 0 rfl) ?_
      refine lv_iload_n hx hb dM_recall_30 rfl (lv_at hl 1 rfl) ?_
      refine gk_v (wr := []) (wc := MW cI cL cZ hm am S9) (wfc := MW cI cL cZ hm am) hP hD hS hA (va_runV (As := [.int p0]) (rest := []) C (c_M_goForward l hl9 D cI cL cZ hm am _ p0 S9 hw H.size) (cwV 1 hts (gGV (by decide +kernel) kM_goForward) rfl rfl rfl (by decide +kernel) ⟨Nat.le_of_ble_eq_true rfl, Nat.le_of_ble_eq_true rfl⟩) (g_preV (wr := []) (wc := MW cI cL cZ hm am S9) (ci := 2) hK hG hA hP hD hS rfl (MWc_0 cI cL cZ hm am S9) rfl) rfl rfl hl.1 rfl (lv_room (Nat.le_of_ble_eq_true rfl)) dM_recall_31 ⟨Nat.le_of_ble_eq_true rfl, Nat.le_of_ble_eq_true rfl⟩) (fun  S12 H locs hw hP hD hS => ?_)
      have hP : va_P D vwCl (MW cI cL cZ hm am S12) H := hP
      have hD : va_D A (MW cI cL cZ hm am S12) := hD
      refine lv_iconst (v := 0) hx hb dM_recall_34 (by decide) ?_
      refine lv_istore_n (lv' := [(3, .int 0), (0, .ref hm), (1, .int p0), (2, .int p1)]) hx hb dM_recall_35 rfl hl (by decide) rfl (fun ls hl => ?_)
      refine lv_iconst (v := 0) hx hb dM_recall_36 (by decide) ?_
      refine lv_istore (lv' := [(4, .int 0), (3, .int 0), (0, .ref hm), (1, .int p0), (2, .int p1)]) hx hb dM_recall_37 hl (by decide) rfl (fun ls hl => ?_)
      exact hJ39 S12 0 0   H locs ls hw hP hD hS (lv_sub hl [1, 0, 2, 4] rfl)
    · have hw := hw.2 c11
      refine lv_iconst (v := 0) hx hb dM_recall_27 (by decide) ?_
      exact gr_i hx hb hr hlocks hK hP hD hS hw (Nat.le_of_ble_eq_true rfl) (Nat.le_of_ble_eq_true rfl) dM_recall_28
  have hJ13 : ∀ (S : MSt) , ∀ (H : Heap) (locs : List Loc) (ls : Array Slot), wpJ_M_recall_13 post p0 p1 S  → va_P D vwCl (MW cI cL cZ hm am S) H → va_D A (MW cI cL cZ hm am S) → va_S A s.heap H locs → lv_has ls 5 [(0, .ref hm), (1, .int p0), (2, .int p1)] → W p l e (headSpec wsM_recall { frames := 3, cells := 0, slots := 0, locals := 65 }).room s m ([.ref hm, .int p0, .int p1] : List Value).toArray below meth c H locs 0 0 (MQ below (gQi D [(cI, .int), (cL, .long), (cZ, .boolean)] (MW cI cL cZ hm am) post A) ([.ref hm, .int p0, .int p1] : List Value).toArray s 0 0 A) (F0 m 13 ls [.ref hm]) := by
    intro S   H locs ls hw hP hD hS hl
    dsimp only [wpJ_M_recall_13] at hw
    refine lv_iconst (v := 1) hx hb dM_recall_13 (by decide) ?_
    refine lv_goto (tgt := 18) hx hb dM_recall_14 (by decide) ?_
    exact hJ18 S 1  (Or.inr rfl) H locs ls hw hP hD hS (lv_sub hl [0, 1, 2] rfl)
  dsimp only [wp_M_recall] at hw
  refine lv_aload_n hx hb dM_recall_0 rfl (lv_at hl 0 rfl) ?_
  refine lv_aload_n hx hb dM_recall_1 rfl (lv_at hl 0 rfl) ?_
  refine lv_iload_n hx hb dM_recall_2 rfl (lv_at hl 1 rfl) ?_
  refine gk_z (wr := []) (wc := MW cI cL cZ hm am S) (wfc := MW cI cL cZ hm am) hP hD hS hA (va_runV (As := [.int p0]) (rest := [.ref hm]) C (c_M_isDefect l hl9 D cI cL cZ hm am _ p0 S hw H.size) (cwV 1 hts (gGV (by decide +kernel) kM_isDefect) rfl rfl rfl (by decide +kernel) ⟨Nat.le_of_ble_eq_true rfl, Nat.le_of_ble_eq_true rfl⟩) (g_preV (wr := []) (wc := MW cI cL cZ hm am S) (ci := 2) hK hG hA hP hD hS rfl (MWc_0 cI cL cZ hm am S) rfl) rfl rfl hl.1 rfl (lv_room (Nat.le_of_ble_eq_true rfl)) dM_recall_3 ⟨Nat.le_of_ble_eq_true rfl, Nat.le_of_ble_eq_true rfl⟩) (fun r14 S13 hbr14 H locs hw hP hD hS => ?_)
  have hP : va_P D vwCl (MW cI cL cZ hm am S13) H := hP
  have hD : va_D A (MW cI cL cZ hm am S13) := hD
  refine lv_if_eq (tgt := 13) hx hb dM_recall_6 (by decide) (fun c15 => ?_) (fun c15 => ?_)
  · have hw := hw.1 c15
    exact hJ13 S13    H locs ls hw hP hD hS (lv_sub hl [0, 1, 2] rfl)
  · have hw := hw.2 c15
    refine lv_iload_n hx hb dM_recall_9 rfl (lv_at hl 2 rfl) ?_
    refine lv_if_ge (tgt := 17) hx hb dM_recall_10 (by decide) (fun c16 => ?_) (fun c16 => ?_)
    · have hw := hw.1 c16
      refine lv_iconst (v := 0) hx hb dM_recall_17 (by decide) ?_
      exact hJ18 S13 0  (Or.inl rfl) H locs ls hw hP hD hS (lv_sub hl [0, 1, 2] rfl)
    · have hw := hw.2 c16
      exact hJ13 S13    H locs ls hw hP hD hS (lv_sub hl [0, 1, 2] rfl)
def wpJ_M_told_85 (post : Int64 → MSt → Prop) (p0 : Int32) (K : MSt → Int64 → Int32 → Prop) (S : MSt) (u4 : Int32) (t0 : Int64) (t1 : Int64) : Prop := (∀ v2_1 : Int64, v2_1 = (t1 + t0) → (∀ v4_2 : Int32, v4_2 = u4 + 1 → (K S v2_1 v4_2)))
def wpB_M_told_53 (post : Int64 → MSt → Prop) (p0 : Int32) (K : MSt → Int64 → Int32 → Prop) (S : MSt) (u2 : Int64) (u4 : Int32) : Prop := (((mpc S) ≤ u4 → (post u2 S)) ∧ (¬ (mpc S) ≤ u4 → (vp_in u4 40 ∧ (((mSt S u4.toNatClampNeg) = 0 → (vp_in u4 40 ∧ (wpJ_M_told_85 post p0 K S u4 ((mWe S u4.toNatClampNeg).toInt64) u2))) ∧ (¬ (mSt S u4.toNatClampNeg) = 0 → (wpJ_M_told_85 post p0 K S u4 0 u2))))))
def wpL_M_told_53 (post : Int64 → MSt → Prop) (p0 : Int32) : Nat → MSt → Int64 → Int32 → Prop
  | 0 => fun _ _ _ => False
  | n + 1 => fun S u2 u4 => wpB_M_told_53 post p0 (wpL_M_told_53 post p0 n) S u2 u4
def wpJ_M_told_47 (post : Int64 → MSt → Prop) (p0 : Int32) (S : MSt) (t0 : Int64) : Prop := (post t0 S)
def wpJ_M_told_15 (post : Int64 → MSt → Prop) (p0 : Int32) (S : MSt) (t0 : Int32) : Prop := (wp_M_throwing (fun r8 S7 => ((r8 = 0 → ((p0 ≤ 0 → (∃ n : Nat, wpL_M_told_53 post p0 n S7 0 0)) ∧ (¬ p0 ≤ 0 → ((p0 = 1 → (wpJ_M_told_47 post p0 S7 ((mhp S7).toInt64))) ∧ (¬ p0 = 1 → (wpJ_M_told_47 post p0 S7 (mml S7))))))) ∧ (¬ r8 = 0 → (post 0 S7)))) t0 0 0 0 S)
def wp_M_told (post : Int64 → MSt → Prop) (p0 : Int32) (S : MSt) : Prop := (wp_M_in (fun r13 S12 => ((r13 = 0 → (wpJ_M_told_15 post p0 S12 1)) ∧ (¬ r13 = 0 → (wpJ_M_told_15 post p0 S12 0)))) p0 0 2 S)
set_option maxHeartbeats 4000000 in
set_option maxRecDepth 100000 in
theorem c_M_told (l : Launch) (hl9 : l.stackTraces = false) (D : va_G) (cI cL cZ : ClassId) (hm : Nat) (am : Nat → Nat) (post : Int64 → MSt → Prop) (p0 : Int32) (S : MSt) (hw : wp_M_told post p0 S) : gMl l yM_told wsM_told ({ frames := 1, cells := 0, slots := 0, locals := 24 }) D [(cI, .int), (cL, .long), (cZ, .boolean)] [.ref hm, .int p0] (MW cI cL cZ hm am S) (MW cI cL cZ hm am) post := by
  refine g_ofMl (cc := cM_told) (maxL := 5) (ret := (some .long)) (own := RM9) (by decide) rfl rfl (Nat.le_of_ble_eq_true rfl) ?_
  intro p e s m below meth c A H locs ls C hr hlocks hK hG hA hP hD hS hl
  obtain ⟨hx, hb, hml, hown, hts⟩ := id C
  have hts := fun w (h9 : w ∈ gW) => hts w (List.mem_cons_of_mem _ h9)
  have hto := fun w (h9 : w ∈ gWo) => hts w (gWo_in w h9)
  have hl : lv_has ls 5 [(0, .ref hm), (1, .int p0)] := hl
  have hJ53 : ∀ (S : MSt) (u2 : Int64) (u4 : Int32) (H : Heap) (locs : List Loc) (ls : Array Slot), (∃ n : Nat, wpL_M_told_53 post p0 n S u2 u4) → va_P D vwCl (MW cI cL cZ hm am S) H → va_D A (MW cI cL cZ hm am S) → va_S A s.heap H locs → lv_has ls 5 [(2, .long u2), (4, .int u4), (0, .ref hm)] → W p l e (headSpec wsM_told { frames := 1, cells := 0, slots := 0, locals := 24 }).room s m ([.ref hm, .int p0] : List Value).toArray below meth c H locs 0 0 (MQ below (gQl D [(cI, .int), (cL, .long), (cZ, .boolean)] (MW cI cL cZ hm am) post A) ([.ref hm, .int p0] : List Value).toArray s 0 0 A) (F0 m 53 ls []) := by
    intro S u2 u4 H locs ls hw
    obtain ⟨n, hw⟩ := hw
    revert S u2 u4 H locs ls
    induction n with
    | zero => intro S u2 u4 H locs ls hw; exact hw.elim
    | succ n ih =>
      have hJ85 : ∀ (S : MSt) (u4 : Int32) (t0 : Int64) (t1 : Int64), ∀ (H : Heap) (locs : List Loc) (ls : Array Slot), wpJ_M_told_85 post p0 (wpL_M_told_53 post p0 n) S u4 t0 t1 → va_P D vwCl (MW cI cL cZ hm am S) H → va_D A (MW cI cL cZ hm am S) → va_S A s.heap H locs → lv_has ls 5 [(4, .int u4), (0, .ref hm)] → W p l e (headSpec wsM_told { frames := 1, cells := 0, slots := 0, locals := 24 }).room s m ([.ref hm, .int p0] : List Value).toArray below meth c H locs 0 0 (MQ below (gQl D [(cI, .int), (cL, .long), (cZ, .boolean)] (MW cI cL cZ hm am) post A) ([.ref hm, .int p0] : List Value).toArray s 0 0 A) (F0 m 85 ls [.long t0, .long t1]) := by
        intro S u4 t0 t1  H locs ls hw hP hD hS hl
        dsimp only [wpJ_M_told_85] at hw
        refine lv_ladd hx hb dM_told_85 ?_
        refine lv_topl (fun v2_1 ev2_1 => ?_)
        have hw := hw v2_1 ev2_1
        refine lv_lstore_n (lv' := [(2, .long v2_1), (4, .int u4), (0, .ref hm)]) hx hb dM_told_86 rfl hl (by decide) rfl (fun ls hl => ?_)
        obtain ⟨v4_2, ev4_2⟩ : ∃ y : Int32, y = u4 + 1 := ⟨_, rfl⟩
        have hw := hw v4_2 ev4_2
        refine lv_iinc (v := v4_2) (lv' := [(4, .int v4_2), (2, .long v2_1), (0, .ref hm)]) hx hb dM_told_87 hl (k := 1) rfl (by rw [ev4_2]; rfl) (by decide) rfl (fun ls hl => ?_)
        refine lv_goto (tgt := 53) hx hb dM_told_90 (by decide) ?_
        exact ih S v2_1 v4_2 H locs ls hw hP hD hS (lv_sub hl [1, 0, 2] rfl)
      intro S u2 u4 H locs ls hw hP hD hS hl
      dsimp only [wpL_M_told_53, wpB_M_told_53] at hw
      refine lv_iload hx hb dM_told_53 (lv_at hl 1 rfl) ?_
      refine lv_aload_n hx hb dM_told_55 rfl (lv_at hl 2 rfl) ?_
      refine va_get (ci := 2) (v := .int (mpc S)) (C := RM9) (T := TM9) (N := 24) hx hb hts iM9 hown hK hP 0 (MWc_0 cI cL cZ hm am S) rfl 1 (by decide) (hto (.fieldLink RM9 64 "PieceTraceModel" "pieces" "I") (by decide +kernel)) (fun _ h9 => h9) rfl dM_told_56 ?_
      refine lv_icmp_ge (tgt := 93) hx hb dM_told_59 (by decide) (fun c3 => ?_) (fun c3 => ?_)
      · have hw := hw.1 c3
        refine lv_lload_n hx hb dM_told_93 rfl (lv_at hl 0 rfl) ?_
        exact gr_l hx hb hr hlocks hK hP hD hS hw (Nat.le_of_ble_eq_true rfl) (Nat.le_of_ble_eq_true rfl) dM_told_94
      · have hw := hw.2 c3
        refine lv_lload_n hx hb dM_told_62 rfl (lv_at hl 0 rfl) ?_
        refine lv_aload_n hx hb dM_told_63 rfl (lv_at hl 2 rfl) ?_
        refine va_get (ci := 2) (v := .ref (am 3)) (C := RM9) (T := TM9) (N := 24) hx hb hts iM9 hown hK hP 0 (MWc_0 cI cL cZ hm am S) rfl 5 (by decide) (hto (.fieldLink RM9 19 "PieceTraceModel" "state" "[I") (by decide +kernel)) (fun _ h9 => h9) rfl dM_told_64 ?_
        refine lv_iload hx hb dM_told_67 (lv_at hl 1 rfl) ?_
        obtain ⟨hi4, hw⟩ := hw
        refine va_iald (f := (mSt S)) hx hb hK hP 4 0 (MWc_4 cI cL cZ hm am S) rfl hi4 dM_told_69 ?_
        refine lv_if_ne (tgt := 84) hx hb dM_told_70 (by decide) (fun c5 => ?_) (fun c5 => ?_)
        · have hw := hw.2 c5
          refine lv_lconst (v := 0) hx hb dM_told_84 (by decide) ?_
          exact hJ85 S u4 0 u2   H locs ls hw hP hD hS (lv_sub hl [1, 2] rfl)
        · have hw := hw.1 c5
          refine lv_aload_n hx hb dM_told_73 rfl (lv_at hl 2 rfl) ?_
          refine va_get (ci := 2) (v := .ref (am 1)) (C := RM9) (T := TM9) (N := 24) hx hb hts iM9 hown hK hP 0 (MWc_0 cI cL cZ hm am S) rfl 3 (by decide) (hto (.fieldLink RM9 13 "PieceTraceModel" "weight" "[I") (by decide +kernel)) (fun _ h9 => h9) rfl dM_told_74 ?_
          refine lv_iload hx hb dM_told_77 (lv_at hl 1 rfl) ?_
          obtain ⟨hi6, hw⟩ := hw
          refine va_iald (f := (mWe S)) hx hb hK hP 2 0 (MWc_2 cI cL cZ hm am S) rfl hi6 dM_told_79 ?_
          refine lv_i2l (v := (mWe S u4.toNatClampNeg).toInt64) hx hb dM_told_80 rfl ?_
          refine lv_goto (tgt := 85) hx hb dM_told_81 (by decide) ?_
          exact hJ85 S u4 ((mWe S u4.toNatClampNeg).toInt64) u2   H locs ls hw hP hD hS (lv_sub hl [1, 2] rfl)
  have hJ47 : ∀ (S : MSt) (t0 : Int64), ∀ (H : Heap) (locs : List Loc) (ls : Array Slot), wpJ_M_told_47 post p0 S t0 → va_P D vwCl (MW cI cL cZ hm am S) H → va_D A (MW cI cL cZ hm am S) → va_S A s.heap H locs → lv_has ls 5 [] → W p l e (headSpec wsM_told { frames := 1, cells := 0, slots := 0, locals := 24 }).room s m ([.ref hm, .int p0] : List Value).toArray below meth c H locs 0 0 (MQ below (gQl D [(cI, .int), (cL, .long), (cZ, .boolean)] (MW cI cL cZ hm am) post A) ([.ref hm, .int p0] : List Value).toArray s 0 0 A) (F0 m 47 ls [.long t0]) := by
    intro S t0  H locs ls hw hP hD hS hl
    dsimp only [wpJ_M_told_47] at hw
    exact gr_l hx hb hr hlocks hK hP hD hS hw (Nat.le_of_ble_eq_true rfl) (Nat.le_of_ble_eq_true rfl) dM_told_47
  have hJ15 : ∀ (S : MSt) (t0 : Int32), (t0 = 0 ∨ t0 = 1) → ∀ (H : Heap) (locs : List Loc) (ls : Array Slot), wpJ_M_told_15 post p0 S t0 → va_P D vwCl (MW cI cL cZ hm am S) H → va_D A (MW cI cL cZ hm am S) → va_S A s.heap H locs → lv_has ls 5 [(0, .ref hm), (1, .int p0)] → W p l e (headSpec wsM_told { frames := 1, cells := 0, slots := 0, locals := 24 }).room s m ([.ref hm, .int p0] : List Value).toArray below meth c H locs 0 0 (MQ below (gQl D [(cI, .int), (cL, .long), (cZ, .boolean)] (MW cI cL cZ hm am) post A) ([.ref hm, .int p0] : List Value).toArray s 0 0 A) (F0 m 15 ls [.int t0, .ref hm]) := by
    intro S t0 hbt0 H locs ls hw hP hD hS hl
    dsimp only [wpJ_M_told_15] at hw
    refine lv_iconst (v := 0) hx hb dM_told_15 (by decide) ?_
    refine lv_iconst (v := 0) hx hb dM_told_16 (by decide) ?_
    refine lv_iconst (v := 0) hx hb dM_told_17 (by decide) ?_
    refine gk_z (wr := []) (wc := MW cI cL cZ hm am S) (wfc := MW cI cL cZ hm am) hP hD hS hA (va_runV (As := [.int t0, .int 0, .int 0, .int 0]) (rest := []) C (c_M_throwing l hl9 D cI cL cZ hm am _ t0 0 0 0 S hw H.size) (cwV 4 hts (gGV (by decide +kernel) kM_throwing) rfl rfl rfl (by decide +kernel) ⟨Nat.le_of_ble_eq_true rfl, Nat.le_of_ble_eq_true rfl⟩) (g_preV (wr := []) (wc := MW cI cL cZ hm am S) (ci := 2) hK hG hA hP hD hS rfl (MWc_0 cI cL cZ hm am S) rfl) rfl rfl hl.1 rfl (lv_room (Nat.le_of_ble_eq_true rfl)) dM_told_18 ⟨Nat.le_of_ble_eq_true rfl, Nat.le_of_ble_eq_true rfl⟩) (fun r8 S7 hbr8 H locs hw hP hD hS => ?_)
    have hP : va_P D vwCl (MW cI cL cZ hm am S7) H := hP
    have hD : va_D A (MW cI cL cZ hm am S7) := hD
    refine lv_if_eq (tgt := 26) hx hb dM_told_21 (by decide) (fun c9 => ?_) (fun c9 => ?_)
    · have hw := hw.1 c9
      refine lv_iload_n hx hb dM_told_26 rfl (lv_at hl 1 rfl) ?_
      refine lv_if_le (tgt := 48) hx hb dM_told_27 (by decide) (fun c10 => ?_) (fun c10 => ?_)
      · have hw := hw.1 c10
        refine lv_lconst (v := 0) hx hb dM_told_48 (by decide) ?_
        refine lv_lstore_n (lv' := [(2, .long 0), (0, .ref hm), (1, .int p0)]) hx hb dM_told_49 rfl hl (by decide) rfl (fun ls hl => ?_)
        refine lv_iconst (v := 0) hx hb dM_told_50 (by decide) ?_
        refine lv_istore (lv' := [(4, .int 0), (2, .long 0), (0, .ref hm), (1, .int p0)]) hx hb dM_told_51 hl (by decide) rfl (fun ls hl => ?_)
        exact hJ53 S7 0 0   H locs ls hw hP hD hS (lv_sub hl [1, 0, 2] rfl)
      · have hw := hw.2 c10
        refine lv_iload_n hx hb dM_told_30 rfl (lv_at hl 1 rfl) ?_
        refine lv_iconst (v := 1) hx hb dM_told_31 (by decide) ?_
        refine lv_icmp_ne (tgt := 43) hx hb dM_told_32 (by decide) (fun c11 => ?_) (fun c11 => ?_)
        · have hw := hw.2 c11
          refine lv_aload_n hx hb dM_told_43 rfl (lv_at hl 0 rfl) ?_
          refine va_get (ci := 2) (v := .long (mml S7)) (C := RM9) (T := TM9) (N := 24) hx hb hts iM9 hown hK hP 0 (MWc_0 cI cL cZ hm am S7) rfl 14 (by decide) (hto (.fieldLink RM9 80 "PieceTraceModel" "melted" "J") (by decide +kernel)) (fun _ h9 => h9) rfl dM_told_44 ?_
          exact hJ47 S7 (mml S7)   H locs ls hw hP hD hS (lv_sub hl [] rfl)
        · have hw := hw.1 c11
          refine lv_aload_n hx hb dM_told_35 rfl (lv_at hl 0 rfl) ?_
          refine va_get (ci := 2) (v := .int (mhp S7)) (C := RM9) (T := TM9) (N := 24) hx hb hts iM9 hown hK hP 0 (MWc_0 cI cL cZ hm am S7) rfl 13 (by decide) (hto (.fieldLink RM9 94 "PieceTraceModel" "heap" "I") (by decide +kernel)) (fun _ h9 => h9) rfl dM_told_36 ?_
          refine lv_i2l (v := (mhp S7).toInt64) hx hb dM_told_39 rfl ?_
          refine lv_goto (tgt := 47) hx hb dM_told_40 (by decide) ?_
          exact hJ47 S7 ((mhp S7).toInt64)   H locs ls hw hP hD hS (lv_sub hl [] rfl)
    · have hw := hw.2 c9
      refine lv_lconst (v := 0) hx hb dM_told_24 (by decide) ?_
      exact gr_l hx hb hr hlocks hK hP hD hS hw (Nat.le_of_ble_eq_true rfl) (Nat.le_of_ble_eq_true rfl) dM_told_25
  dsimp only [wp_M_told] at hw
  refine lv_aload_n hx hb dM_told_0 rfl (lv_at hl 0 rfl) ?_
  refine lv_iload_n hx hb dM_told_1 rfl (lv_at hl 1 rfl) ?_
  refine lv_iconst (v := 0) hx hb dM_told_2 (by decide) ?_
  refine lv_iconst (v := 2) hx hb dM_told_3 (by decide) ?_
  refine gk_z (wr := []) (wc := MW cI cL cZ hm am S) (wfc := MW cI cL cZ hm am) hP hD hS hA (va_runS (As := [.int p0, .int 0, .int 2]) (rest := [.ref hm]) C (c_M_in l hl9 D cI cL cZ hm am _ p0 0 2 S hw H.size) (va_cwS 3 hts (gGS (by decide +kernel) kM_in) rfl rfl rfl (by decide +kernel) ⟨Nat.le_of_ble_eq_true rfl, Nat.le_of_ble_eq_true rfl⟩) (g_preS (wr := []) (wc := MW cI cL cZ hm am S) hK hG hA hP hD hS) rfl rfl hl.1 rfl (lv_room (Nat.le_of_ble_eq_true rfl)) dM_told_4 ⟨Nat.le_of_ble_eq_true rfl, Nat.le_of_ble_eq_true rfl⟩) (fun r13 S12 hbr13 H locs hw hP hD hS => ?_)
  have hP : va_P D vwCl (MW cI cL cZ hm am S12) H := hP
  have hD : va_D A (MW cI cL cZ hm am S12) := hD
  refine lv_if_ne (tgt := 14) hx hb dM_told_7 (by decide) (fun c14 => ?_) (fun c14 => ?_)
  · have hw := hw.2 c14
    refine lv_iconst (v := 0) hx hb dM_told_14 (by decide) ?_
    exact hJ15 S12 0  (Or.inl rfl) H locs ls hw hP hD hS (lv_sub hl [0, 1] rfl)
  · have hw := hw.1 c14
    refine lv_iconst (v := 1) hx hb dM_told_10 (by decide) ?_
    refine lv_goto (tgt := 15) hx hb dM_told_11 (by decide) ?_
    exact hJ15 S12 1  (Or.inr rfl) H locs ls hw hP hD hS (lv_sub hl [0, 1] rfl)
