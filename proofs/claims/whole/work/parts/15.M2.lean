def wpJ_M_melt_40 (post : Int32 → MSt → Prop) (p0 : Int32) (p1 : Int32) (S : MSt) (t0 : Int32) (t1 : Int32) : Prop := (wp_M_throwing (fun r2 S1 => ((r2 = 0 → (∀ S4 : MSt, S4 = msml S1 ((mml S1) + p0.toInt64) → (wp_M_add (fun r6 S5 => (post r6 S5)) 0 (-1) p0 p1 S4))) ∧ (¬ r2 = 0 → (post 0 S1)))) t1 t0 0 0 S)
def wpJ_M_melt_26 (post : Int32 → MSt → Prop) (p0 : Int32) (p1 : Int32) (S : MSt) (t0 : Int32) : Prop := (((mpc S) = 40 → (wpJ_M_melt_40 post p0 p1 S 1 t0)) ∧ (¬ (mpc S) = 40 → (wpJ_M_melt_40 post p0 p1 S 0 t0)))
def wpJ_M_melt_21 (post : Int32 → MSt → Prop) (p0 : Int32) (p1 : Int32) (S : MSt)  : Prop := (wpJ_M_melt_26 post p0 p1 S 1)
def wp_M_melt (post : Int32 → MSt → Prop) (p0 : Int32) (p1 : Int32) (S : MSt) : Prop := (wp_M_in (fun r9 S8 => ((r9 = 0 → (wpJ_M_melt_21 post p0 p1 S8 )) ∧ (¬ r9 = 0 → (wp_M_in (fun r12 S11 => ((r12 = 0 → (wpJ_M_melt_21 post p0 p1 S11 )) ∧ (¬ r12 = 0 → (wpJ_M_melt_26 post p0 p1 S11 0)))) p1 1 1000000 S8)))) p0 1 1000000 S)
set_option maxHeartbeats 4000000 in
set_option maxRecDepth 100000 in
theorem c_M_melt (l : Launch) (hl9 : l.stackTraces = false) (D : va_G) (cI cL cZ : ClassId) (hm : Nat) (am : Nat → Nat) (post : Int32 → MSt → Prop) (p0 : Int32) (p1 : Int32) (S : MSt) (hw : wp_M_melt post p0 p1 S) : gMi l yM_melt wsM_melt ({ frames := 1, cells := 0, slots := 0, locals := 24 }) D [(cI, .int), (cL, .long), (cZ, .boolean)] [.ref hm, .int p0, .int p1] (MW cI cL cZ hm am S) (MW cI cL cZ hm am) post := by
  refine g_ofMi (cc := cM_melt) (maxL := 3) (ret := (some .int)) (own := RM9) (by decide) rfl rfl (Nat.le_of_ble_eq_true rfl) ?_
  intro p e s m below meth c A H locs ls C hr hlocks hK hG hA hP hD hS hl
  obtain ⟨hx, hb, hml, hown, hts⟩ := id C
  have hts := fun w (h9 : w ∈ gW) => hts w (List.mem_cons_of_mem _ h9)
  have hto := fun w (h9 : w ∈ gWo) => hts w (gWo_in w h9)
  have hl : lv_has ls 3 [(0, .ref hm), (1, .int p0), (2, .int p1)] := hl
  have hJ40 : ∀ (S : MSt) (t0 : Int32) (t1 : Int32), (t0 = 0 ∨ t0 = 1) → (t1 = 0 ∨ t1 = 1) → ∀ (H : Heap) (locs : List Loc) (ls : Array Slot), wpJ_M_melt_40 post p0 p1 S t0 t1 → va_P D vwCl (MW cI cL cZ hm am S) H → va_D A (MW cI cL cZ hm am S) → va_S A s.heap H locs → lv_has ls 3 [(0, .ref hm), (1, .int p0), (2, .int p1)] → W p l e (headSpec wsM_melt { frames := 1, cells := 0, slots := 0, locals := 24 }).room s m ([.ref hm, .int p0, .int p1] : List Value).toArray below meth c H locs 0 0 (MQ below (gQi D [(cI, .int), (cL, .long), (cZ, .boolean)] (MW cI cL cZ hm am) post A) ([.ref hm, .int p0, .int p1] : List Value).toArray s 0 0 A) (F0 m 40 ls [.int t0, .int t1, .ref hm]) := by
    intro S t0 t1 hbt0 hbt1 H locs ls hw hP hD hS hl
    dsimp only [wpJ_M_melt_40] at hw
    refine lv_iconst (v := 0) hx hb dM_melt_40 (by decide) ?_
    refine lv_iconst (v := 0) hx hb dM_melt_41 (by decide) ?_
    refine gk_z (wr := []) (wc := MW cI cL cZ hm am S) (wfc := MW cI cL cZ hm am) hP hD hS hA (va_runV (As := [.int t1, .int t0, .int 0, .int 0]) (rest := []) C (c_M_throwing l hl9 D cI cL cZ hm am _ t1 t0 0 0 S hw H.size) (cwV 4 hts (gGV (by decide +kernel) kM_throwing) rfl rfl rfl (by decide +kernel) ⟨Nat.le_of_ble_eq_true rfl, Nat.le_of_ble_eq_true rfl⟩) (g_preV (wr := []) (wc := MW cI cL cZ hm am S) (ci := 2) hK hG hA hP hD hS rfl (MWc_0 cI cL cZ hm am S) rfl) rfl rfl hl.1 rfl (lv_room (Nat.le_of_ble_eq_true rfl)) dM_melt_42 ⟨Nat.le_of_ble_eq_true rfl, Nat.le_of_ble_eq_true rfl⟩) (fun r2 S1 hbr2 H locs hw hP hD hS => ?_)
    have hP : va_P D vwCl (MW cI cL cZ hm am S1) H := hP
    have hD : va_D A (MW cI cL cZ hm am S1) := hD
    refine lv_if_eq (tgt := 50) hx hb dM_melt_45 (by decide) (fun c3 => ?_) (fun c3 => ?_)
    · have hw := hw.1 c3
      refine lv_aload_n hx hb dM_melt_50 rfl (lv_at hl 0 rfl) ?_
      refine lv_dup hx hb dM_melt_51 rfl ?_
      refine va_get (ci := 2) (v := .long (mml S1)) (C := RM9) (T := TM9) (N := 24) hx hb hts iM9 hown hK hP 0 (MWc_0 cI cL cZ hm am S1) rfl 14 (by decide) (hto (.fieldLink RM9 80 "PieceTraceModel" "melted" "J") (by decide +kernel)) (fun _ h9 => h9) rfl dM_melt_52 ?_
      refine lv_iload_n hx hb dM_melt_55 rfl (lv_at hl 1 rfl) ?_
      refine lv_i2l (v := p0.toInt64) hx hb dM_melt_56 rfl ?_
      refine lv_ladd hx hb dM_melt_57 ?_
      refine g_put (wf := MW cI cL cZ hm am) (S' := msml S1 ((mml S1) + p0.toInt64)) (ci := 2) (v := .long ((mml S1) + p0.toInt64)) (ty := .long) (C := RM9) (T := TM9) (N := 24) hx hb hts iM9 tyM9 tyM9_ok nmM9 hown hK hP hD hS 0 (MWc_0 cI cL cZ hm am S1) rfl 14 (by decide) (hto (.fieldLink RM9 80 "PieceTraceModel" "melted" "J") (by decide +kernel)) (fun _ h9 => h9) rfl (by decide +kernel) rfl rfl (Nat.le_of_ble_eq_true rfl) rfl dM_melt_58 (fun S4 eS4 H locs hP hD hS => ?_)
      have hw := hw S4 eS4
      refine lv_aload_n hx hb dM_melt_61 rfl (lv_at hl 0 rfl) ?_
      refine lv_iconst (v := 0) hx hb dM_melt_62 (by decide) ?_
      refine lv_iconst (v := -1) hx hb dM_melt_63 (by decide) ?_
      refine lv_iload_n hx hb dM_melt_64 rfl (lv_at hl 1 rfl) ?_
      refine lv_iload_n hx hb dM_melt_65 rfl (lv_at hl 2 rfl) ?_
      refine gk_i (wr := []) (wc := MW cI cL cZ hm am S4) (wfc := MW cI cL cZ hm am) hP hD hS hA (va_runV (As := [.int 0, .int (-1), .int p0, .int p1]) (rest := []) C (c_M_add l hl9 D cI cL cZ hm am _ 0 (-1) p0 p1 S4 hw H.size) (cwV 4 hts (gGV (by decide +kernel) kM_add) rfl rfl rfl (by decide +kernel) ⟨Nat.le_of_ble_eq_true rfl, Nat.le_of_ble_eq_true rfl⟩) (g_preV (wr := []) (wc := MW cI cL cZ hm am S4) (ci := 2) hK hG hA hP hD hS rfl (MWc_0 cI cL cZ hm am S4) rfl) rfl rfl hl.1 rfl (lv_room (Nat.le_of_ble_eq_true rfl)) dM_melt_66 ⟨Nat.le_of_ble_eq_true rfl, Nat.le_of_ble_eq_true rfl⟩) (fun r6 S5 H locs hw hP hD hS => ?_)
      have hP : va_P D vwCl (MW cI cL cZ hm am S5) H := hP
      have hD : va_D A (MW cI cL cZ hm am S5) := hD
      exact gr_i hx hb hr hlocks hK hP hD hS hw (Nat.le_of_ble_eq_true rfl) (Nat.le_of_ble_eq_true rfl) dM_melt_69
    · have hw := hw.2 c3
      refine lv_iconst (v := 0) hx hb dM_melt_48 (by decide) ?_
      exact gr_i hx hb hr hlocks hK hP hD hS hw (Nat.le_of_ble_eq_true rfl) (Nat.le_of_ble_eq_true rfl) dM_melt_49
  have hJ26 : ∀ (S : MSt) (t0 : Int32), (t0 = 0 ∨ t0 = 1) → ∀ (H : Heap) (locs : List Loc) (ls : Array Slot), wpJ_M_melt_26 post p0 p1 S t0 → va_P D vwCl (MW cI cL cZ hm am S) H → va_D A (MW cI cL cZ hm am S) → va_S A s.heap H locs → lv_has ls 3 [(0, .ref hm), (1, .int p0), (2, .int p1)] → W p l e (headSpec wsM_melt { frames := 1, cells := 0, slots := 0, locals := 24 }).room s m ([.ref hm, .int p0, .int p1] : List Value).toArray below meth c H locs 0 0 (MQ below (gQi D [(cI, .int), (cL, .long), (cZ, .boolean)] (MW cI cL cZ hm am) post A) ([.ref hm, .int p0, .int p1] : List Value).toArray s 0 0 A) (F0 m 26 ls [.int t0, .ref hm]) := by
    intro S t0 hbt0 H locs ls hw hP hD hS hl
    dsimp only [wpJ_M_melt_26] at hw
    refine lv_aload_n hx hb dM_melt_26 rfl (lv_at hl 0 rfl) ?_
    refine va_get (ci := 2) (v := .int (mpc S)) (C := RM9) (T := TM9) (N := 24) hx hb hts iM9 hown hK hP 0 (MWc_0 cI cL cZ hm am S) rfl 1 (by decide) (hto (.fieldLink RM9 64 "PieceTraceModel" "pieces" "I") (by decide +kernel)) (fun _ h9 => h9) rfl dM_melt_27 ?_
    refine lv_bipush (v := 40) hx hb dM_melt_30 (by decide) ?_
    refine lv_icmp_ne (tgt := 39) hx hb dM_melt_32 (by decide) (fun c7 => ?_) (fun c7 => ?_)
    · have hw := hw.2 c7
      refine lv_iconst (v := 0) hx hb dM_melt_39 (by decide) ?_
      exact hJ40 S 0 t0  (Or.inl rfl) hbt0 H locs ls hw hP hD hS (lv_sub hl [0, 1, 2] rfl)
    · have hw := hw.1 c7
      refine lv_iconst (v := 1) hx hb dM_melt_35 (by decide) ?_
      refine lv_goto (tgt := 40) hx hb dM_melt_36 (by decide) ?_
      exact hJ40 S 1 t0  (Or.inr rfl) hbt0 H locs ls hw hP hD hS (lv_sub hl [0, 1, 2] rfl)
  have hJ21 : ∀ (S : MSt) , ∀ (H : Heap) (locs : List Loc) (ls : Array Slot), wpJ_M_melt_21 post p0 p1 S  → va_P D vwCl (MW cI cL cZ hm am S) H → va_D A (MW cI cL cZ hm am S) → va_S A s.heap H locs → lv_has ls 3 [(0, .ref hm), (1, .int p0), (2, .int p1)] → W p l e (headSpec wsM_melt { frames := 1, cells := 0, slots := 0, locals := 24 }).room s m ([.ref hm, .int p0, .int p1] : List Value).toArray below meth c H locs 0 0 (MQ below (gQi D [(cI, .int), (cL, .long), (cZ, .boolean)] (MW cI cL cZ hm am) post A) ([.ref hm, .int p0, .int p1] : List Value).toArray s 0 0 A) (F0 m 21 ls [.ref hm]) := by
    intro S   H locs ls hw hP hD hS hl
    dsimp only [wpJ_M_melt_21] at hw
    refine lv_iconst (v := 1) hx hb dM_melt_21 (by decide) ?_
    refine lv_goto (tgt := 26) hx hb dM_melt_22 (by decide) ?_
    exact hJ26 S 1  (Or.inr rfl) H locs ls hw hP hD hS (lv_sub hl [0, 1, 2] rfl)
  dsimp only [wp_M_melt] at hw
  refine lv_aload_n hx hb dM_melt_0 rfl (lv_at hl 0 rfl) ?_
  refine lv_iload_n hx hb dM_melt_1 rfl (lv_at hl 1 rfl) ?_
  refine lv_iconst (v := 1) hx hb dM_melt_2 (by decide) ?_
  refine lv_ldc (v := 1000000) hx hb hown (hto (.constant RM9 75 1000000) (by decide +kernel)) dM_melt_3 ?_
  refine gk_z (wr := []) (wc := MW cI cL cZ hm am S) (wfc := MW cI cL cZ hm am) hP hD hS hA (va_runS (As := [.int p0, .int 1, .int 1000000]) (rest := [.ref hm]) C (c_M_in l hl9 D cI cL cZ hm am _ p0 1 1000000 S hw H.size) (va_cwS 3 hts (gGS (by decide +kernel) kM_in) rfl rfl rfl (by decide +kernel) ⟨Nat.le_of_ble_eq_true rfl, Nat.le_of_ble_eq_true rfl⟩) (g_preS (wr := []) (wc := MW cI cL cZ hm am S) hK hG hA hP hD hS) rfl rfl hl.1 rfl (lv_room (Nat.le_of_ble_eq_true rfl)) dM_melt_5 ⟨Nat.le_of_ble_eq_true rfl, Nat.le_of_ble_eq_true rfl⟩) (fun r9 S8 hbr9 H locs hw hP hD hS => ?_)
  have hP : va_P D vwCl (MW cI cL cZ hm am S8) H := hP
  have hD : va_D A (MW cI cL cZ hm am S8) := hD
  refine lv_if_eq (tgt := 21) hx hb dM_melt_8 (by decide) (fun c10 => ?_) (fun c10 => ?_)
  · have hw := hw.1 c10
    exact hJ21 S8    H locs ls hw hP hD hS (lv_sub hl [0, 1, 2] rfl)
  · have hw := hw.2 c10
    refine lv_iload_n hx hb dM_melt_11 rfl (lv_at hl 2 rfl) ?_
    refine lv_iconst (v := 1) hx hb dM_melt_12 (by decide) ?_
    refine lv_ldc (v := 1000000) hx hb hown (hto (.constant RM9 75 1000000) (by decide +kernel)) dM_melt_13 ?_
    refine gk_z (wr := []) (wc := MW cI cL cZ hm am S8) (wfc := MW cI cL cZ hm am) hP hD hS hA (va_runS (As := [.int p1, .int 1, .int 1000000]) (rest := [.ref hm]) C (c_M_in l hl9 D cI cL cZ hm am _ p1 1 1000000 S8 hw H.size) (va_cwS 3 hts (gGS (by decide +kernel) kM_in) rfl rfl rfl (by decide +kernel) ⟨Nat.le_of_ble_eq_true rfl, Nat.le_of_ble_eq_true rfl⟩) (g_preS (wr := []) (wc := MW cI cL cZ hm am S8) hK hG hA hP hD hS) rfl rfl hl.1 rfl (lv_room (Nat.le_of_ble_eq_true rfl)) dM_melt_15 ⟨Nat.le_of_ble_eq_true rfl, Nat.le_of_ble_eq_true rfl⟩) (fun r12 S11 hbr12 H locs hw hP hD hS => ?_)
    have hP : va_P D vwCl (MW cI cL cZ hm am S11) H := hP
    have hD : va_D A (MW cI cL cZ hm am S11) := hD
    refine lv_if_ne (tgt := 25) hx hb dM_melt_18 (by decide) (fun c13 => ?_) (fun c13 => ?_)
    · have hw := hw.2 c13
      refine lv_iconst (v := 0) hx hb dM_melt_25 (by decide) ?_
      exact hJ26 S11 0  (Or.inl rfl) H locs ls hw hP hD hS (lv_sub hl [0, 1, 2] rfl)
    · have hw := hw.1 c13
      exact hJ21 S11    H locs ls hw hP hD hS (lv_sub hl [0, 1, 2] rfl)
def wpJ_M_cut_78 (post : Int32 → MSt → Prop) (p0 : Int32) (p1 : Int32) (S : MSt) (t0 : Int32) (t1 : Int32) (t2 : Int32) (t3 : Int32) : Prop := (wp_M_throwing (fun r2 S1 => ((r2 = 0 → (vp_in p0 40 ∧ (vp_in p0 40 ∧ (¬ (mLe S1 p0.toNatClampNeg).toInt64 = 0 ∧ (∀ v4_7 : Int32, v4_7 = (((mWe S1 p0.toNatClampNeg).toInt64 * p1.toInt64) / (mLe S1 p0.toNatClampNeg).toInt64).toInt32 → (wp_M_add (fun r9 S8 => (vp_in p0 40 ∧ (vp_in p0 40 ∧ (wp_M_add (fun r13 S12 => (vp_in r9 40 ∧ (∀ S15 : MSt, S15 = muCu S12 r9 p1 → (vp_in r13 40 ∧ (∀ S17 : MSt, S17 = muCu S15 r13 p1 → (post r9 S17)))))) 2 p0 ((mWe S8 p0.toNatClampNeg) - v4_7) ((mLe S8 p0.toNatClampNeg) - p1) S8)))) 1 p0 v4_7 p1 S1)))))) ∧ (¬ r2 = 0 → (post 0 S1)))) t3 t2 t1 t0 S)
def wpJ_M_cut_62 (post : Int32 → MSt → Prop) (p0 : Int32) (p1 : Int32) (S : MSt) (t0 : Int32) (t1 : Int32) (t2 : Int32) : Prop := ((((mpc S) + 2) ≤ 40 → (wpJ_M_cut_78 post p0 p1 S 0 t0 t1 t2)) ∧ (¬ ((mpc S) + 2) ≤ 40 → (wpJ_M_cut_78 post p0 p1 S 1 t0 t1 t2)))
def wpJ_M_cut_61 (post : Int32 → MSt → Prop) (p0 : Int32) (p1 : Int32) (S : MSt) (t0 : Int32) (t1 : Int32) : Prop := (wpJ_M_cut_62 post p0 p1 S 0 t0 t1)
def wpJ_M_cut_48 (post : Int32 → MSt → Prop) (p0 : Int32) (p1 : Int32) (S : MSt) (t0 : Int32) (t2 : Int32) (t3 : Int32) (t4 : Int32) (t5 : Int32) : Prop := (vp_in t0 40 ∧ (wp_M_in (fun r21 S20 => ((r21 = 0 → (wpJ_M_cut_62 post p0 p1 S20 1 t4 t5)) ∧ (¬ r21 = 0 → (wpJ_M_cut_61 post p0 p1 S20 t4 t5)))) t3 t2 ((mLe S t0.toNatClampNeg) - 1) S))
def wpJ_M_cut_29 (post : Int32 → MSt → Prop) (p0 : Int32) (p1 : Int32) (S : MSt) (u3 : Int32) (t0 : Int32) (t1 : Int32) : Prop := ((u3 = 0 → (wpJ_M_cut_48 post p0 p1 S p0 1 p1 t0 t1)) ∧ (¬ u3 = 0 → (wpJ_M_cut_61 post p0 p1 S t0 t1)))
def wpJ_M_cut_13 (post : Int32 → MSt → Prop) (p0 : Int32) (p1 : Int32) (S : MSt) (t0 : Int32) : Prop := (wp_M_isAtHand (fun r25 S24 => ((r25 = 0 → (wpJ_M_cut_29 post p0 p1 S24 t0 1 t0)) ∧ (¬ r25 = 0 → (wpJ_M_cut_29 post p0 p1 S24 t0 0 t0)))) p0 S)
def wp_M_cut (post : Int32 → MSt → Prop) (p0 : Int32) (p1 : Int32) (S : MSt) : Prop := (wp_M_isPiece (fun r28 S27 => ((r28 = 0 → (wpJ_M_cut_13 post p0 p1 S27 1)) ∧ (¬ r28 = 0 → (wpJ_M_cut_13 post p0 p1 S27 0)))) p0 S)
set_option maxHeartbeats 4000000 in
set_option maxRecDepth 100000 in
theorem c_M_cut (l : Launch) (hl9 : l.stackTraces = false) (D : va_G) (cI cL cZ : ClassId) (hm : Nat) (am : Nat → Nat) (post : Int32 → MSt → Prop) (p0 : Int32) (p1 : Int32) (S : MSt) (hw : wp_M_cut post p0 p1 S) : gMi l yM_cut wsM_cut ({ frames := 3, cells := 0, slots := 0, locals := 64 }) D [(cI, .int), (cL, .long), (cZ, .boolean)] [.ref hm, .int p0, .int p1] (MW cI cL cZ hm am S) (MW cI cL cZ hm am) post := by
  refine g_ofMi (cc := cM_cut) (maxL := 7) (ret := (some .int)) (own := RM9) (by decide) rfl rfl (Nat.le_of_ble_eq_true rfl) ?_
  intro p e s m below meth c A H locs ls C hr hlocks hK hG hA hP hD hS hl
  obtain ⟨hx, hb, hml, hown, hts⟩ := id C
  have hts := fun w (h9 : w ∈ gW) => hts w (List.mem_cons_of_mem _ h9)
  have hto := fun w (h9 : w ∈ gWo) => hts w (gWo_in w h9)
  have hl : lv_has ls 7 [(0, .ref hm), (1, .int p0), (2, .int p1)] := hl
  have hJ78 : ∀ (S : MSt) (t0 : Int32) (t1 : Int32) (t2 : Int32) (t3 : Int32), (t0 = 0 ∨ t0 = 1) → (t1 = 0 ∨ t1 = 1) → (t2 = 0 ∨ t2 = 1) → (t3 = 0 ∨ t3 = 1) → ∀ (H : Heap) (locs : List Loc) (ls : Array Slot), wpJ_M_cut_78 post p0 p1 S t0 t1 t2 t3 → va_P D vwCl (MW cI cL cZ hm am S) H → va_D A (MW cI cL cZ hm am S) → va_S A s.heap H locs → lv_has ls 7 [(0, .ref hm), (1, .int p0), (2, .int p1)] → W p l e (headSpec wsM_cut { frames := 3, cells := 0, slots := 0, locals := 64 }).room s m ([.ref hm, .int p0, .int p1] : List Value).toArray below meth c H locs 0 0 (MQ below (gQi D [(cI, .int), (cL, .long), (cZ, .boolean)] (MW cI cL cZ hm am) post A) ([.ref hm, .int p0, .int p1] : List Value).toArray s 0 0 A) (F0 m 78 ls [.int t0, .int t1, .int t2, .int t3, .ref hm]) := by
    intro S t0 t1 t2 t3 hbt0 hbt1 hbt2 hbt3 H locs ls hw hP hD hS hl
    dsimp only [wpJ_M_cut_78] at hw
    refine gk_z (wr := []) (wc := MW cI cL cZ hm am S) (wfc := MW cI cL cZ hm am) hP hD hS hA (va_runV (As := [.int t3, .int t2, .int t1, .int t0]) (rest := []) C (c_M_throwing l hl9 D cI cL cZ hm am _ t3 t2 t1 t0 S hw H.size) (cwV 4 hts (gGV (by decide +kernel) kM_throwing) rfl rfl rfl (by decide +kernel) ⟨Nat.le_of_ble_eq_true rfl, Nat.le_of_ble_eq_true rfl⟩) (g_preV (wr := []) (wc := MW cI cL cZ hm am S) (ci := 2) hK hG hA hP hD hS rfl (MWc_0 cI cL cZ hm am S) rfl) rfl rfl hl.1 rfl (lv_room (Nat.le_of_ble_eq_true rfl)) dM_cut_78 ⟨Nat.le_of_ble_eq_true rfl, Nat.le_of_ble_eq_true rfl⟩) (fun r2 S1 hbr2 H locs hw hP hD hS => ?_)
    have hP : va_P D vwCl (MW cI cL cZ hm am S1) H := hP
    have hD : va_D A (MW cI cL cZ hm am S1) := hD
    refine lv_if_eq (tgt := 86) hx hb dM_cut_81 (by decide) (fun c3 => ?_) (fun c3 => ?_)
    · have hw := hw.1 c3
      refine lv_aload_n hx hb dM_cut_86 rfl (lv_at hl 0 rfl) ?_
      refine va_get (ci := 2) (v := .ref (am 1)) (C := RM9) (T := TM9) (N := 24) hx hb hts iM9 hown hK hP 0 (MWc_0 cI cL cZ hm am S1) rfl 3 (by decide) (hto (.fieldLink RM9 13 "PieceTraceModel" "weight" "[I") (by decide +kernel)) (fun _ h9 => h9) rfl dM_cut_87 ?_
      refine lv_iload_n hx hb dM_cut_90 rfl (lv_at hl 1 rfl) ?_
      obtain ⟨hi4, hw⟩ := hw
      refine va_iald (f := (mWe S1)) hx hb hK hP 2 0 (MWc_2 cI cL cZ hm am S1) rfl hi4 dM_cut_91 ?_
      refine lv_i2l (v := (mWe S1 p0.toNatClampNeg).toInt64) hx hb dM_cut_92 rfl ?_
      refine lv_iload_n hx hb dM_cut_93 rfl (lv_at hl 2 rfl) ?_
      refine lv_i2l (v := p1.toInt64) hx hb dM_cut_94 rfl ?_
      refine lv_lmul hx hb dM_cut_95 ?_
      refine lv_aload_n hx hb dM_cut_96 rfl (lv_at hl 0 rfl) ?_
      refine va_get (ci := 2) (v := .ref (am 2)) (C := RM9) (T := TM9) (N := 24) hx hb hts iM9 hown hK hP 0 (MWc_0 cI cL cZ hm am S1) rfl 4 (by decide) (hto (.fieldLink RM9 16 "PieceTraceModel" "length" "[I") (by decide +kernel)) (fun _ h9 => h9) rfl dM_cut_97 ?_
      refine lv_iload_n hx hb dM_cut_100 rfl (lv_at hl 1 rfl) ?_
      obtain ⟨hi5, hw⟩ := hw
      refine va_iald (f := (mLe S1)) hx hb hK hP 3 0 (MWc_3 cI cL cZ hm am S1) rfl hi5 dM_cut_101 ?_
      refine lv_i2l (v := (mLe S1 p0.toNatClampNeg).toInt64) hx hb dM_cut_102 rfl ?_
      obtain ⟨hz6, hw⟩ := hw
      refine lv_ldiv hx hb dM_cut_103 hz6 ?_
      refine lv_l2i (v := (((mWe S1 p0.toNatClampNeg).toInt64 * p1.toInt64) / (mLe S1 p0.toNatClampNeg).toInt64).toInt32) hx hb dM_cut_104 rfl ?_
      refine lv_topi (fun v4_7 ev4_7 => ?_)
      have hw := hw v4_7 ev4_7
      refine lv_istore (lv' := [(4, .int v4_7), (0, .ref hm), (1, .int p0), (2, .int p1)]) hx hb dM_cut_105 hl (by decide) rfl (fun ls hl => ?_)
      refine lv_aload_n hx hb dM_cut_107 rfl (lv_at hl 1 rfl) ?_
      refine lv_iconst (v := 1) hx hb dM_cut_108 (by decide) ?_
      refine lv_iload_n hx hb dM_cut_109 rfl (lv_at hl 2 rfl) ?_
      refine lv_iload hx hb dM_cut_110 (lv_at hl 0 rfl) ?_
      refine lv_iload_n hx hb dM_cut_112 rfl (lv_at hl 3 rfl) ?_
      refine gk_i (wr := []) (wc := MW cI cL cZ hm am S1) (wfc := MW cI cL cZ hm am) hP hD hS hA (va_runV (As := [.int 1, .int p0, .int v4_7, .int p1]) (rest := []) C (c_M_add l hl9 D cI cL cZ hm am _ 1 p0 v4_7 p1 S1 hw H.size) (cwV 4 hts (gGV (by decide +kernel) kM_add) rfl rfl rfl (by decide +kernel) ⟨Nat.le_of_ble_eq_true rfl, Nat.le_of_ble_eq_true rfl⟩) (g_preV (wr := []) (wc := MW cI cL cZ hm am S1) (ci := 2) hK hG hA hP hD hS rfl (MWc_0 cI cL cZ hm am S1) rfl) rfl rfl hl.1 rfl (lv_room (Nat.le_of_ble_eq_true rfl)) dM_cut_113 ⟨Nat.le_of_ble_eq_true rfl, Nat.le_of_ble_eq_true rfl⟩) (fun r9 S8 H locs hw hP hD hS => ?_)
      have hP : va_P D vwCl (MW cI cL cZ hm am S8) H := hP
      have hD : va_D A (MW cI cL cZ hm am S8) := hD
      refine lv_istore (lv' := [(5, .int r9), (4, .int v4_7), (0, .ref hm), (1, .int p0), (2, .int p1)]) hx hb dM_cut_116 hl (by decide) rfl (fun ls hl => ?_)
      refine lv_aload_n hx hb dM_cut_118 rfl (lv_at hl 2 rfl) ?_
      refine lv_iconst (v := 2) hx hb dM_cut_119 (by decide) ?_
      refine lv_iload_n hx hb dM_cut_120 rfl (lv_at hl 3 rfl) ?_
      refine lv_aload_n hx hb dM_cut_121 rfl (lv_at hl 2 rfl) ?_
      refine va_get (ci := 2) (v := .ref (am 1)) (C := RM9) (T := TM9) (N := 24) hx hb hts iM9 hown hK hP 0 (MWc_0 cI cL cZ hm am S8) rfl 3 (by decide) (hto (.fieldLink RM9 13 "PieceTraceModel" "weight" "[I") (by decide +kernel)) (fun _ h9 => h9) rfl dM_cut_122 ?_
      refine lv_iload_n hx hb dM_cut_125 rfl (lv_at hl 3 rfl) ?_
      obtain ⟨hi10, hw⟩ := hw
      refine va_iald (f := (mWe S8)) hx hb hK hP 2 0 (MWc_2 cI cL cZ hm am S8) rfl hi10 dM_cut_126 ?_
      refine lv_iload hx hb dM_cut_127 (lv_at hl 1 rfl) ?_
      refine lv_isub hx hb dM_cut_129 ?_
      refine lv_aload_n hx hb dM_cut_130 rfl (lv_at hl 2 rfl) ?_
      refine va_get (ci := 2) (v := .ref (am 2)) (C := RM9) (T := TM9) (N := 24) hx hb hts iM9 hown hK hP 0 (MWc_0 cI cL cZ hm am S8) rfl 4 (by decide) (hto (.fieldLink RM9 16 "PieceTraceModel" "length" "[I") (by decide +kernel)) (fun _ h9 => h9) rfl dM_cut_131 ?_
      refine lv_iload_n hx hb dM_cut_134 rfl (lv_at hl 3 rfl) ?_
      obtain ⟨hi11, hw⟩ := hw
      refine va_iald (f := (mLe S8)) hx hb hK hP 3 0 (MWc_3 cI cL cZ hm am S8) rfl hi11 dM_cut_135 ?_
      refine lv_iload_n hx hb dM_cut_136 rfl (lv_at hl 4 rfl) ?_
      refine lv_isub hx hb dM_cut_137 ?_
      refine gk_i (wr := []) (wc := MW cI cL cZ hm am S8) (wfc := MW cI cL cZ hm am) hP hD hS hA (va_runV (As := [.int 2, .int p0, .int ((mWe S8 p0.toNatClampNeg) - v4_7), .int ((mLe S8 p0.toNatClampNeg) - p1)]) (rest := []) C (c_M_add l hl9 D cI cL cZ hm am _ 2 p0 ((mWe S8 p0.toNatClampNeg) - v4_7) ((mLe S8 p0.toNatClampNeg) - p1) S8 hw H.size) (cwV 4 hts (gGV (by decide +kernel) kM_add) rfl rfl rfl (by decide +kernel) ⟨Nat.le_of_ble_eq_true rfl, Nat.le_of_ble_eq_true rfl⟩) (g_preV (wr := []) (wc := MW cI cL cZ hm am S8) (ci := 2) hK hG hA hP hD hS rfl (MWc_0 cI cL cZ hm am S8) rfl) rfl rfl hl.1 rfl (lv_room (Nat.le_of_ble_eq_true rfl)) dM_cut_138 ⟨Nat.le_of_ble_eq_true rfl, Nat.le_of_ble_eq_true rfl⟩) (fun r13 S12 H locs hw hP hD hS => ?_)
      have hP : va_P D vwCl (MW cI cL cZ hm am S12) H := hP
      have hD : va_D A (MW cI cL cZ hm am S12) := hD
      refine lv_istore (lv' := [(6, .int r13), (5, .int r9), (4, .int v4_7), (0, .ref hm), (1, .int p0), (2, .int p1)]) hx hb dM_cut_141 hl (by decide) rfl (fun ls hl => ?_)
      refine lv_aload_n hx hb dM_cut_143 rfl (lv_at hl 3 rfl) ?_
      refine va_get (ci := 2) (v := .ref (am 7)) (C := RM9) (T := TM9) (N := 24) hx hb hts iM9 hown hK hP 0 (MWc_0 cI cL cZ hm am S12) rfl 9 (by decide) (hto (.fieldLink RM9 32 "PieceTraceModel" "cutAt" "[I") (by decide +kernel)) (fun _ h9 => h9) rfl dM_cut_144 ?_
      refine lv_iload hx hb dM_cut_147 (lv_at hl 1 rfl) ?_
      refine lv_iload_n hx hb dM_cut_149 rfl (lv_at hl 5 rfl) ?_
      obtain ⟨hi14, hw⟩ := hw
      refine g_iast (wf := MW cI cL cZ hm am) (S' := muCu S12 r9 p1) hx hb hK hP hD hS 8 0 (MWc_8 cI cL cZ hm am S12) rfl rfl hi14 dM_cut_150 (fun S15 eS15 H locs hP hD hS => ?_)
      have hw := hw S15 eS15
      refine lv_aload_n hx hb dM_cut_151 rfl (lv_at hl 3 rfl) ?_
      refine va_get (ci := 2) (v := .ref (am 7)) (C := RM9) (T := TM9) (N := 24) hx hb hts iM9 hown hK hP 0 (MWc_0 cI cL cZ hm am S15) rfl 9 (by decide) (hto (.fieldLink RM9 32 "PieceTraceModel" "cutAt" "[I") (by decide +kernel)) (fun _ h9 => h9) rfl dM_cut_152 ?_
      refine lv_iload hx hb dM_cut_155 (lv_at hl 0 rfl) ?_
      refine lv_iload_n hx hb dM_cut_157 rfl (lv_at hl 5 rfl) ?_
      obtain ⟨hi16, hw⟩ := hw
      refine g_iast (wf := MW cI cL cZ hm am) (S' := muCu S15 r13 p1) hx hb hK hP hD hS 8 0 (MWc_8 cI cL cZ hm am S15) rfl rfl hi16 dM_cut_158 (fun S17 eS17 H locs hP hD hS => ?_)
      have hw := hw S17 eS17
      refine lv_iload hx hb dM_cut_159 (lv_at hl 1 rfl) ?_
      exact gr_i hx hb hr hlocks hK hP hD hS hw (Nat.le_of_ble_eq_true rfl) (Nat.le_of_ble_eq_true rfl) dM_cut_161
    · have hw := hw.2 c3
      refine lv_iconst (v := 0) hx hb dM_cut_84 (by decide) ?_
      exact gr_i hx hb hr hlocks hK hP hD hS hw (Nat.le_of_ble_eq_true rfl) (Nat.le_of_ble_eq_true rfl) dM_cut_85
  have hJ62 : ∀ (S : MSt) (t0 : Int32) (t1 : Int32) (t2 : Int32), (t0 = 0 ∨ t0 = 1) → (t1 = 0 ∨ t1 = 1) → (t2 = 0 ∨ t2 = 1) → ∀ (H : Heap) (locs : List Loc) (ls : Array Slot), wpJ_M_cut_62 post p0 p1 S t0 t1 t2 → va_P D vwCl (MW cI cL cZ hm am S) H → va_D A (MW cI cL cZ hm am S) → va_S A s.heap H locs → lv_has ls 7 [(0, .ref hm), (1, .int p0), (2, .int p1)] → W p l e (headSpec wsM_cut { frames := 3, cells := 0, slots := 0, locals := 64 }).room s m ([.ref hm, .int p0, .int p1] : List Value).toArray below meth c H locs 0 0 (MQ below (gQi D [(cI, .int), (cL, .long), (cZ, .boolean)] (MW cI cL cZ hm am) post A) ([.ref hm, .int p0, .int p1] : List Value).toArray s 0 0 A) (F0 m 62 ls [.int t0, .int t1, .int t2, .ref hm]) := by
    intro S t0 t1 t2 hbt0 hbt1 hbt2 H locs ls hw hP hD hS hl
    dsimp only [wpJ_M_cut_62] at hw
    refine lv_aload_n hx hb dM_cut_62 rfl (lv_at hl 0 rfl) ?_
    refine va_get (ci := 2) (v := .int (mpc S)) (C := RM9) (T := TM9) (N := 24) hx hb hts iM9 hown hK hP 0 (MWc_0 cI cL cZ hm am S) rfl 1 (by decide) (hto (.fieldLink RM9 64 "PieceTraceModel" "pieces" "I") (by decide +kernel)) (fun _ h9 => h9) rfl dM_cut_63 ?_
    refine lv_iconst (v := 2) hx hb dM_cut_66 (by decide) ?_
    refine lv_iadd hx hb dM_cut_67 ?_
    refine lv_bipush (v := 40) hx hb dM_cut_68 (by decide) ?_
    refine lv_icmp_le (tgt := 77) hx hb dM_cut_70 (by decide) (fun c18 => ?_) (fun c18 => ?_)
    · have hw := hw.1 c18
      refine lv_iconst (v := 0) hx hb dM_cut_77 (by decide) ?_
      exact hJ78 S 0 t0 t1 t2  (Or.inl rfl) hbt0 hbt1 hbt2 H locs ls hw hP hD hS (lv_sub hl [0, 1, 2] rfl)
    · have hw := hw.2 c18
      refine lv_iconst (v := 1) hx hb dM_cut_73 (by decide) ?_
      refine lv_goto (tgt := 78) hx hb dM_cut_74 (by decide) ?_
      exact hJ78 S 1 t0 t1 t2  (Or.inr rfl) hbt0 hbt1 hbt2 H locs ls hw hP hD hS (lv_sub hl [0, 1, 2] rfl)
  have hJ61 : ∀ (S : MSt) (t0 : Int32) (t1 : Int32), (t0 = 0 ∨ t0 = 1) → (t1 = 0 ∨ t1 = 1) → ∀ (H : Heap) (locs : List Loc) (ls : Array Slot), wpJ_M_cut_61 post p0 p1 S t0 t1 → va_P D vwCl (MW cI cL cZ hm am S) H → va_D A (MW cI cL cZ hm am S) → va_S A s.heap H locs → lv_has ls 7 [(0, .ref hm), (1, .int p0), (2, .int p1)] → W p l e (headSpec wsM_cut { frames := 3, cells := 0, slots := 0, locals := 64 }).room s m ([.ref hm, .int p0, .int p1] : List Value).toArray below meth c H locs 0 0 (MQ below (gQi D [(cI, .int), (cL, .long), (cZ, .boolean)] (MW cI cL cZ hm am) post A) ([.ref hm, .int p0, .int p1] : List Value).toArray s 0 0 A) (F0 m 61 ls [.int t0, .int t1, .ref hm]) := by
    intro S t0 t1 hbt0 hbt1 H locs ls hw hP hD hS hl
    dsimp only [wpJ_M_cut_61] at hw
    refine lv_iconst (v := 0) hx hb dM_cut_61 (by decide) ?_
    exact hJ62 S 0 t0 t1  (Or.inl rfl) hbt0 hbt1 H locs ls hw hP hD hS (lv_sub hl [0, 1, 2] rfl)
  have hJ48 : ∀ (S : MSt) (t0 : Int32) (t2 : Int32) (t3 : Int32) (t4 : Int32) (t5 : Int32), (t2 = 0 ∨ t2 = 1) → (t4 = 0 ∨ t4 = 1) → (t5 = 0 ∨ t5 = 1) → ∀ (H : Heap) (locs : List Loc) (ls : Array Slot), wpJ_M_cut_48 post p0 p1 S t0 t2 t3 t4 t5 → va_P D vwCl (MW cI cL cZ hm am S) H → va_D A (MW cI cL cZ hm am S) → va_S A s.heap H locs → lv_has ls 7 [(0, .ref hm), (1, .int p0), (2, .int p1)] → W p l e (headSpec wsM_cut { frames := 3, cells := 0, slots := 0, locals := 64 }).room s m ([.ref hm, .int p0, .int p1] : List Value).toArray below meth c H locs 0 0 (MQ below (gQi D [(cI, .int), (cL, .long), (cZ, .boolean)] (MW cI cL cZ hm am) post A) ([.ref hm, .int p0, .int p1] : List Value).toArray s 0 0 A) (F0 m 48 ls [.int t0, .ref (am 2), .int t2, .int t3, .int t4, .int t5, .ref hm]) := by
    intro S t0 t2 t3 t4 t5 hbt2 hbt4 hbt5 H locs ls hw hP hD hS hl
    dsimp only [wpJ_M_cut_48] at hw
    obtain ⟨hi19, hw⟩ := hw
    refine va_iald (f := (mLe S)) hx hb hK hP 3 0 (MWc_3 cI cL cZ hm am S) rfl hi19 dM_cut_48 ?_
    refine lv_iconst (v := 1) hx hb dM_cut_49 (by decide) ?_
    refine lv_isub hx hb dM_cut_50 ?_
    refine gk_z (wr := []) (wc := MW cI cL cZ hm am S) (wfc := MW cI cL cZ hm am) hP hD hS hA (va_runS (As := [.int t3, .int t2, .int ((mLe S t0.toNatClampNeg) - 1)]) (rest := [.int t4, .int t5, .ref hm]) C (c_M_in l hl9 D cI cL cZ hm am _ t3 t2 ((mLe S t0.toNatClampNeg) - 1) S hw H.size) (va_cwS 3 hts (gGS (by decide +kernel) kM_in) rfl rfl rfl (by decide +kernel) ⟨Nat.le_of_ble_eq_true rfl, Nat.le_of_ble_eq_true rfl⟩) (g_preS (wr := []) (wc := MW cI cL cZ hm am S) hK hG hA hP hD hS) rfl rfl hl.1 rfl (lv_room (Nat.le_of_ble_eq_true rfl)) dM_cut_51 ⟨Nat.le_of_ble_eq_true rfl, Nat.le_of_ble_eq_true rfl⟩) (fun r21 S20 hbr21 H locs hw hP hD hS => ?_)
    have hP : va_P D vwCl (MW cI cL cZ hm am S20) H := hP
    have hD : va_D A (MW cI cL cZ hm am S20) := hD
    refine lv_if_ne (tgt := 61) hx hb dM_cut_54 (by decide) (fun c22 => ?_) (fun c22 => ?_)
    · have hw := hw.2 c22
      exact hJ61 S20 t4 t5  hbt4 hbt5 H locs ls hw hP hD hS (lv_sub hl [0, 1, 2] rfl)
    · have hw := hw.1 c22
      refine lv_iconst (v := 1) hx hb dM_cut_57 (by decide) ?_
      refine lv_goto (tgt := 62) hx hb dM_cut_58 (by decide) ?_
      exact hJ62 S20 1 t4 t5  (Or.inr rfl) hbt4 hbt5 H locs ls hw hP hD hS (lv_sub hl [0, 1, 2] rfl)
  have hJ29 : ∀ (S : MSt) (u3 : Int32) (t0 : Int32) (t1 : Int32), (u3 = 0 ∨ u3 = 1) → (t0 = 0 ∨ t0 = 1) → (t1 = 0 ∨ t1 = 1) → ∀ (H : Heap) (locs : List Loc) (ls : Array Slot), wpJ_M_cut_29 post p0 p1 S u3 t0 t1 → va_P D vwCl (MW cI cL cZ hm am S) H → va_D A (MW cI cL cZ hm am S) → va_S A s.heap H locs → lv_has ls 7 [(3, .int u3), (0, .ref hm), (1, .int p0), (2, .int p1)] → W p l e (headSpec wsM_cut { frames := 3, cells := 0, slots := 0, locals := 64 }).room s m ([.ref hm, .int p0, .int p1] : List Value).toArray below meth c H locs 0 0 (MQ below (gQi D [(cI, .int), (cL, .long), (cZ, .boolean)] (MW cI cL cZ hm am) post A) ([.ref hm, .int p0, .int p1] : List Value).toArray s 0 0 A) (F0 m 29 ls [.int t0, .int t1, .ref hm]) := by
    intro S u3 t0 t1 hbu3 hbt0 hbt1 H locs ls hw hP hD hS hl
    dsimp only [wpJ_M_cut_29] at hw
    refine lv_iload_n hx hb dM_cut_29 rfl (lv_at hl 0 rfl) ?_
    refine lv_if_ne (tgt := 61) hx hb dM_cut_30 (by decide) (fun c23 => ?_) (fun c23 => ?_)
    · have hw := hw.2 c23
      exact hJ61 S t0 t1  hbt0 hbt1 H locs ls hw hP hD hS (lv_sub hl [1, 2, 3] rfl)
    · have hw := hw.1 c23
      refine lv_iload_n hx hb dM_cut_33 rfl (lv_at hl 3 rfl) ?_
      refine lv_iconst (v := 1) hx hb dM_cut_34 (by decide) ?_
      refine lv_aload_n hx hb dM_cut_35 rfl (lv_at hl 1 rfl) ?_
      refine va_get (ci := 2) (v := .ref (am 2)) (C := RM9) (T := TM9) (N := 24) hx hb hts iM9 hown hK hP 0 (MWc_0 cI cL cZ hm am S) rfl 4 (by decide) (hto (.fieldLink RM9 16 "PieceTraceModel" "length" "[I") (by decide +kernel)) (fun _ h9 => h9) rfl dM_cut_36 ?_
      refine lv_iload_n hx hb dM_cut_39 rfl (lv_at hl 0 rfl) ?_
      refine lv_if_eq (tgt := 47) hx hb dM_cut_40 (by decide) (fun _ => ?_) (fun c9 => absurd c23 c9)
      refine lv_iload_n hx hb dM_cut_47 rfl (lv_at hl 2 rfl) ?_
      exact hJ48 S p0 1 p1 t0 t1  (Or.inr rfl) hbt0 hbt1 H locs ls hw hP hD hS (lv_sub hl [1, 2, 3] rfl)
  have hJ13 : ∀ (S : MSt) (t0 : Int32), (t0 = 0 ∨ t0 = 1) → ∀ (H : Heap) (locs : List Loc) (ls : Array Slot), wpJ_M_cut_13 post p0 p1 S t0 → va_P D vwCl (MW cI cL cZ hm am S) H → va_D A (MW cI cL cZ hm am S) → va_S A s.heap H locs → lv_has ls 7 [(0, .ref hm), (1, .int p0), (2, .int p1)] → W p l e (headSpec wsM_cut { frames := 3, cells := 0, slots := 0, locals := 64 }).room s m ([.ref hm, .int p0, .int p1] : List Value).toArray below meth c H locs 0 0 (MQ below (gQi D [(cI, .int), (cL, .long), (cZ, .boolean)] (MW cI cL cZ hm am) post A) ([.ref hm, .int p0, .int p1] : List Value).toArray s 0 0 A) (F0 m 13 ls [.int t0]) := by
    intro S t0 hbt0 H locs ls hw hP hD hS hl
    dsimp only [wpJ_M_cut_13] at hw
    refine lv_istore_n (lv' := [(3, .int t0), (0, .ref hm), (1, .int p0), (2, .int p1)]) hx hb dM_cut_13 rfl hl (by decide) rfl (fun ls hl => ?_)
    refine lv_aload_n hx hb dM_cut_14 rfl (lv_at hl 1 rfl) ?_
    refine lv_iload_n hx hb dM_cut_15 rfl (lv_at hl 0 rfl) ?_
    refine lv_aload_n hx hb dM_cut_16 rfl (lv_at hl 1 rfl) ?_
    refine lv_iload_n hx hb dM_cut_17 rfl (lv_at hl 2 rfl) ?_
    refine gk_z (wr := []) (wc := MW cI cL cZ hm am S) (wfc := MW cI cL cZ hm am) hP hD hS hA (va_runV (As := [.int p0]) (rest := [.int t0, .ref hm]) C (c_M_isAtHand l hl9 D cI cL cZ hm am _ p0 S hw H.size) (cwV 1 hts (gGV (by decide +kernel) kM_isAtHand) rfl rfl rfl (by decide +kernel) ⟨Nat.le_of_ble_eq_true rfl, Nat.le_of_ble_eq_true rfl⟩) (g_preV (wr := []) (wc := MW cI cL cZ hm am S) (ci := 2) hK hG hA hP hD hS rfl (MWc_0 cI cL cZ hm am S) rfl) rfl rfl hl.1 rfl (lv_room (Nat.le_of_ble_eq_true rfl)) dM_cut_18 ⟨Nat.le_of_ble_eq_true rfl, Nat.le_of_ble_eq_true rfl⟩) (fun r25 S24 hbr25 H locs hw hP hD hS => ?_)
    have hP : va_P D vwCl (MW cI cL cZ hm am S24) H := hP
    have hD : va_D A (MW cI cL cZ hm am S24) := hD
    refine lv_if_ne (tgt := 28) hx hb dM_cut_21 (by decide) (fun c26 => ?_) (fun c26 => ?_)
    · have hw := hw.2 c26
      refine lv_iconst (v := 0) hx hb dM_cut_28 (by decide) ?_
      exact hJ29 S24 t0 0 t0 hbt0 (Or.inl rfl) hbt0 H locs ls hw hP hD hS (lv_sub hl [0, 1, 2, 3] rfl)
    · have hw := hw.1 c26
      refine lv_iconst (v := 1) hx hb dM_cut_24 (by decide) ?_
      refine lv_goto (tgt := 29) hx hb dM_cut_25 (by decide) ?_
      exact hJ29 S24 t0 1 t0 hbt0 (Or.inr rfl) hbt0 H locs ls hw hP hD hS (lv_sub hl [0, 1, 2, 3] rfl)
  dsimp only [wp_M_cut] at hw
  refine lv_aload_n hx hb dM_cut_0 rfl (lv_at hl 0 rfl) ?_
  refine lv_iload_n hx hb dM_cut_1 rfl (lv_at hl 1 rfl) ?_
  refine gk_z (wr := []) (wc := MW cI cL cZ hm am S) (wfc := MW cI cL cZ hm am) hP hD hS hA (va_runV (As := [.int p0]) (rest := []) C (c_M_isPiece l hl9 D cI cL cZ hm am _ p0 S hw H.size) (cwV 1 hts (gGV (by decide +kernel) kM_isPiece) rfl rfl rfl (by decide +kernel) ⟨Nat.le_of_ble_eq_true rfl, Nat.le_of_ble_eq_true rfl⟩) (g_preV (wr := []) (wc := MW cI cL cZ hm am S) (ci := 2) hK hG hA hP hD hS rfl (MWc_0 cI cL cZ hm am S) rfl) rfl rfl hl.1 rfl (lv_room (Nat.le_of_ble_eq_true rfl)) dM_cut_2 ⟨Nat.le_of_ble_eq_true rfl, Nat.le_of_ble_eq_true rfl⟩) (fun r28 S27 hbr28 H locs hw hP hD hS => ?_)
  have hP : va_P D vwCl (MW cI cL cZ hm am S27) H := hP
  have hD : va_D A (MW cI cL cZ hm am S27) := hD
  refine lv_if_ne (tgt := 12) hx hb dM_cut_5 (by decide) (fun c29 => ?_) (fun c29 => ?_)
  · have hw := hw.2 c29
    refine lv_iconst (v := 0) hx hb dM_cut_12 (by decide) ?_
    exact hJ13 S27 0  (Or.inl rfl) H locs ls hw hP hD hS (lv_sub hl [0, 1, 2] rfl)
  · have hw := hw.1 c29
    refine lv_iconst (v := 1) hx hb dM_cut_8 (by decide) ?_
    refine lv_goto (tgt := 13) hx hb dM_cut_9 (by decide) ?_
    exact hJ13 S27 1  (Or.inr rfl) H locs ls hw hP hD hS (lv_sub hl [0, 1, 2] rfl)
def wpJ_M_weld_242 (post : Int32 → MSt → Prop) (p0 : Int32) (p1 : Int32) (S : MSt) (u5 : Int32) (t0 : Int32) (t1 : Int32) : Prop := (vp_in t1 40 ∧ (∀ S2 : MSt, S2 = muRo S t1 t0 → (post u5 S2)))
def wpJ_M_weld_148 (post : Int32 → MSt → Prop) (p0 : Int32) (p1 : Int32) (S : MSt) (t0 : Int32) (t1 : Int32) (t2 : Int32) : Prop := (wp_M_throwing (fun r4 S3 => ((r4 = 0 → (vp_in p0 40 ∧ (vp_in p1 40 ∧ (vp_in p0 40 ∧ (vp_in p1 40 ∧ (wp_M_add (fun r11 S10 => (vp_in r11 40 ∧ (∀ S13 : MSt, S13 = muOt S10 r11 p1 → (vp_in p1 40 ∧ (∀ S15 : MSt, S15 = muSt S13 p1 1 → (vp_in p0 40 ∧ (vp_in p1 40 ∧ (((mRo S15 p0.toNatClampNeg) ≤ (mRo S15 p1.toNatClampNeg) → (vp_in p1 40 ∧ (wpJ_M_weld_242 post p0 p1 S15 r11 (mRo S15 p1.toNatClampNeg) r11))) ∧ (¬ (mRo S15 p0.toNatClampNeg) ≤ (mRo S15 p1.toNatClampNeg) → (vp_in p0 40 ∧ (wpJ_M_weld_242 post p0 p1 S15 r11 (mRo S15 p0.toNatClampNeg) r11))))))))))) 3 p0 ((mWe S3 p0.toNatClampNeg) + (mWe S3 p1.toNatClampNeg)) ((mLe S3 p0.toNatClampNeg) + (mLe S3 p1.toNatClampNeg)) S3)))))) ∧ (¬ r4 = 0 → (post 0 S3)))) t2 t1 t0 0 S)
def wpJ_M_weld_143 (post : Int32 → MSt → Prop) (p0 : Int32) (p1 : Int32) (S : MSt) (t0 : Int32) (t1 : Int32) : Prop := (wpJ_M_weld_148 post p0 p1 S 1 t0 t1)
def wpJ_M_weld_129 (post : Int32 → MSt → Prop) (p0 : Int32) (p1 : Int32) (S : MSt) (u4 : Int32) (t0 : Int32) (t1 : Int32) : Prop := (((mpc S) = 40 → (wpJ_M_weld_143 post p0 p1 S t0 t1)) ∧ (¬ (mpc S) = 40 → ((u4 = 0 → (wpJ_M_weld_148 post p0 p1 S 0 t0 t1)) ∧ (¬ u4 = 0 → (wpJ_M_weld_143 post p0 p1 S t0 t1)))))
def wpJ_M_weld_124 (post : Int32 → MSt → Prop) (p0 : Int32) (p1 : Int32) (S : MSt) (u4 : Int32) (t0 : Int32) : Prop := (wpJ_M_weld_129 post p0 p1 S u4 1 t0)
def wpJ_M_weld_104 (post : Int32 → MSt → Prop) (p0 : Int32) (p1 : Int32) (S : MSt) (u3 : Int32) (t0 : Int32) : Prop := (wp_M_isAtHand (fun r24 S23 => ((r24 = 0 → (wpJ_M_weld_124 post p0 p1 S23 t0 u3)) ∧ (¬ r24 = 0 → (wp_M_isAtHand (fun r27 S26 => ((r27 = 0 → (wpJ_M_weld_124 post p0 p1 S26 t0 u3)) ∧ (¬ r27 = 0 → (wpJ_M_weld_129 post p0 p1 S26 t0 0 u3)))) p1 S23)))) p0 S)
def wpJ_M_weld_103 (post : Int32 → MSt → Prop) (p0 : Int32) (p1 : Int32) (S : MSt) (u3 : Int32) : Prop := (wpJ_M_weld_104 post p0 p1 S u3 0)
def wpJ_M_weld_99 (post : Int32 → MSt → Prop) (p0 : Int32) (p1 : Int32) (S : MSt) (u3 : Int32) : Prop := (wpJ_M_weld_104 post p0 p1 S u3 1)
def wpJ_M_weld_94 (post : Int32 → MSt → Prop) (p0 : Int32) (p1 : Int32) (S : MSt) (u3 : Int32) (t0 : Int32) (t2 : Int32) (t3 : Int32) : Prop := (vp_in t0 40 ∧ ((t3 ≤ (t2 - (mLe S t0.toNatClampNeg)) → (wpJ_M_weld_103 post p0 p1 S u3)) ∧ (¬ t3 ≤ (t2 - (mLe S t0.toNatClampNeg)) → (wpJ_M_weld_99 post p0 p1 S u3))))
def wpJ_M_weld_78 (post : Int32 → MSt → Prop) (p0 : Int32) (p1 : Int32) (S : MSt) (u3 : Int32) (t0 : Int32) : Prop := (vp_in t0 40 ∧ ((u3 = 0 → (wpJ_M_weld_94 post p0 p1 S u3 p1 1000000000 (mLe S t0.toNatClampNeg))) ∧ (¬ u3 = 0 → (wpJ_M_weld_94 post p0 p1 S u3 0 1000000000 (mLe S t0.toNatClampNeg)))))
def wpJ_M_weld_60 (post : Int32 → MSt → Prop) (p0 : Int32) (p1 : Int32) (S : MSt) (u3 : Int32) (t0 : Int32) (t2 : Int32) (t3 : Int32) : Prop := (vp_in t0 40 ∧ (((t2 - (mWe S t0.toNatClampNeg)) < t3 → (wpJ_M_weld_99 post p0 p1 S u3)) ∧ (¬ (t2 - (mWe S t0.toNatClampNeg)) < t3 → ((u3 = 0 → (wpJ_M_weld_78 post p0 p1 S u3 p0)) ∧ (¬ u3 = 0 → (wpJ_M_weld_78 post p0 p1 S u3 0))))))
def wpJ_M_weld_44 (post : Int32 → MSt → Prop) (p0 : Int32) (p1 : Int32) (S : MSt) (u3 : Int32) (t0 : Int32) : Prop := (vp_in t0 40 ∧ ((u3 = 0 → (wpJ_M_weld_60 post p0 p1 S u3 p1 1000000000 (mWe S t0.toNatClampNeg))) ∧ (¬ u3 = 0 → (wpJ_M_weld_60 post p0 p1 S u3 0 1000000000 (mWe S t0.toNatClampNeg)))))
def wpJ_M_weld_26 (post : Int32 → MSt → Prop) (p0 : Int32) (p1 : Int32) (S : MSt) (t0 : Int32) : Prop := ((t0 = 0 → (wpJ_M_weld_44 post p0 p1 S t0 p0)) ∧ (¬ t0 = 0 → (wpJ_M_weld_103 post p0 p1 S t0)))
def wpJ_M_weld_21 (post : Int32 → MSt → Prop) (p0 : Int32) (p1 : Int32) (S : MSt)  : Prop := (wpJ_M_weld_26 post p0 p1 S 1)
def wp_M_weld (post : Int32 → MSt → Prop) (p0 : Int32) (p1 : Int32) (S : MSt) : Prop := (wp_M_isPiece (fun r40 S39 => ((r40 = 0 → (wpJ_M_weld_21 post p0 p1 S39 )) ∧ (¬ r40 = 0 → (wp_M_isPiece (fun r43 S42 => ((r43 = 0 → (wpJ_M_weld_21 post p0 p1 S42 )) ∧ (¬ r43 = 0 → ((p0 = p1 → (wpJ_M_weld_21 post p0 p1 S42 )) ∧ (¬ p0 = p1 → (wpJ_M_weld_26 post p0 p1 S42 0)))))) p1 S39)))) p0 S)
set_option maxHeartbeats 4000000 in
set_option maxRecDepth 100000 in
theorem c_M_weld (l : Launch) (hl9 : l.stackTraces = false) (D : va_G) (cI cL cZ : ClassId) (hm : Nat) (am : Nat → Nat) (post : Int32 → MSt → Prop) (p0 : Int32) (p1 : Int32) (S : MSt) (hw : wp_M_weld post p0 p1 S) : gMi l yM_weld wsM_weld ({ frames := 3, cells := 0, slots := 0, locals := 64 }) D [(cI, .int), (cL, .long), (cZ, .boolean)] [.ref hm, .int p0, .int p1] (MW cI cL cZ hm am S) (MW cI cL cZ hm am) post := by
  refine g_ofMi (cc := cM_weld) (maxL := 6) (ret := (some .int)) (own := RM9) (by decide) rfl rfl (Nat.le_of_ble_eq_true rfl) ?_
  intro p e s m below meth c A H locs ls C hr hlocks hK hG hA hP hD hS hl
  obtain ⟨hx, hb, hml, hown, hts⟩ := id C
  have hts := fun w (h9 : w ∈ gW) => hts w (List.mem_cons_of_mem _ h9)
  have hto := fun w (h9 : w ∈ gWo) => hts w (gWo_in w h9)
  have hl : lv_has ls 6 [(0, .ref hm), (1, .int p0), (2, .int p1)] := hl
  have hJ242 : ∀ (S : MSt) (u5 : Int32) (t0 : Int32) (t1 : Int32), ∀ (H : Heap) (locs : List Loc) (ls : Array Slot), wpJ_M_weld_242 post p0 p1 S u5 t0 t1 → va_P D vwCl (MW cI cL cZ hm am S) H → va_D A (MW cI cL cZ hm am S) → va_S A s.heap H locs → lv_has ls 6 [(5, .int u5)] → W p l e (headSpec wsM_weld { frames := 3, cells := 0, slots := 0, locals := 64 }).room s m ([.ref hm, .int p0, .int p1] : List Value).toArray below meth c H locs 0 0 (MQ below (gQi D [(cI, .int), (cL, .long), (cZ, .boolean)] (MW cI cL cZ hm am) post A) ([.ref hm, .int p0, .int p1] : List Value).toArray s 0 0 A) (F0 m 242 ls [.int t0, .int t1, .ref (am 10)]) := by
    intro S u5 t0 t1  H locs ls hw hP hD hS hl
    dsimp only [wpJ_M_weld_242] at hw
    obtain ⟨hi1, hw⟩ := hw
    refine g_iast (wf := MW cI cL cZ hm am) (S' := muRo S t1 t0) hx hb hK hP hD hS 11 0 (MWc_11 cI cL cZ hm am S) rfl rfl hi1 dM_weld_242 (fun S2 eS2 H locs hP hD hS => ?_)
    have hw := hw S2 eS2
    refine lv_iload hx hb dM_weld_243 (lv_at hl 0 rfl) ?_
    exact gr_i hx hb hr hlocks hK hP hD hS hw (Nat.le_of_ble_eq_true rfl) (Nat.le_of_ble_eq_true rfl) dM_weld_245
  have hJ148 : ∀ (S : MSt) (t0 : Int32) (t1 : Int32) (t2 : Int32), (t0 = 0 ∨ t0 = 1) → (t1 = 0 ∨ t1 = 1) → (t2 = 0 ∨ t2 = 1) → ∀ (H : Heap) (locs : List Loc) (ls : Array Slot), wpJ_M_weld_148 post p0 p1 S t0 t1 t2 → va_P D vwCl (MW cI cL cZ hm am S) H → va_D A (MW cI cL cZ hm am S) → va_S A s.heap H locs → lv_has ls 6 [(0, .ref hm), (1, .int p0), (2, .int p1)] → W p l e (headSpec wsM_weld { frames := 3, cells := 0, slots := 0, locals := 64 }).room s m ([.ref hm, .int p0, .int p1] : List Value).toArray below meth c H locs 0 0 (MQ below (gQi D [(cI, .int), (cL, .long), (cZ, .boolean)] (MW cI cL cZ hm am) post A) ([.ref hm, .int p0, .int p1] : List Value).toArray s 0 0 A) (F0 m 148 ls [.int t0, .int t1, .int t2, .ref hm]) := by
    intro S t0 t1 t2 hbt0 hbt1 hbt2 H locs ls hw hP hD hS hl
    dsimp only [wpJ_M_weld_148] at hw
    refine lv_iconst (v := 0) hx hb dM_weld_148 (by decide) ?_
    refine gk_z (wr := []) (wc := MW cI cL cZ hm am S) (wfc := MW cI cL cZ hm am) hP hD hS hA (va_runV (As := [.int t2, .int t1, .int t0, .int 0]) (rest := []) C (c_M_throwing l hl9 D cI cL cZ hm am _ t2 t1 t0 0 S hw H.size) (cwV 4 hts (gGV (by decide +kernel) kM_throwing) rfl rfl rfl (by decide +kernel) ⟨Nat.le_of_ble_eq_true rfl, Nat.le_of_ble_eq_true rfl⟩) (g_preV (wr := []) (wc := MW cI cL cZ hm am S) (ci := 2) hK hG hA hP hD hS rfl (MWc_0 cI cL cZ hm am S) rfl) rfl rfl hl.1 rfl (lv_room (Nat.le_of_ble_eq_true rfl)) dM_weld_149 ⟨Nat.le_of_ble_eq_true rfl, Nat.le_of_ble_eq_true rfl⟩) (fun r4 S3 hbr4 H locs hw hP hD hS => ?_)
    have hP : va_P D vwCl (MW cI cL cZ hm am S3) H := hP
    have hD : va_D A (MW cI cL cZ hm am S3) := hD
    refine lv_if_eq (tgt := 157) hx hb dM_weld_152 (by decide) (fun c5 => ?_) (fun c5 => ?_)
    · have hw := hw.1 c5
      refine lv_aload_n hx hb dM_weld_157 rfl (lv_at hl 0 rfl) ?_
      refine lv_iconst (v := 3) hx hb dM_weld_158 (by decide) ?_
      refine lv_iload_n hx hb dM_weld_159 rfl (lv_at hl 1 rfl) ?_
      refine lv_aload_n hx hb dM_weld_160 rfl (lv_at hl 0 rfl) ?_
      refine va_get (ci := 2) (v := .ref (am 1)) (C := RM9) (T := TM9) (N := 24) hx hb hts iM9 hown hK hP 0 (MWc_0 cI cL cZ hm am S3) rfl 3 (by decide) (hto (.fieldLink RM9 13 "PieceTraceModel" "weight" "[I") (by decide +kernel)) (fun _ h9 => h9) rfl dM_weld_161 ?_
      refine lv_iload_n hx hb dM_weld_164 rfl (lv_at hl 1 rfl) ?_
      obtain ⟨hi6, hw⟩ := hw
      refine va_iald (f := (mWe S3)) hx hb hK hP 2 0 (MWc_2 cI cL cZ hm am S3) rfl hi6 dM_weld_165 ?_
      refine lv_aload_n hx hb dM_weld_166 rfl (lv_at hl 0 rfl) ?_
      refine va_get (ci := 2) (v := .ref (am 1)) (C := RM9) (T := TM9) (N := 24) hx hb hts iM9 hown hK hP 0 (MWc_0 cI cL cZ hm am S3) rfl 3 (by decide) (hto (.fieldLink RM9 13 "PieceTraceModel" "weight" "[I") (by decide +kernel)) (fun _ h9 => h9) rfl dM_weld_167 ?_
      refine lv_iload_n hx hb dM_weld_170 rfl (lv_at hl 2 rfl) ?_
      obtain ⟨hi7, hw⟩ := hw
      refine va_iald (f := (mWe S3)) hx hb hK hP 2 0 (MWc_2 cI cL cZ hm am S3) rfl hi7 dM_weld_171 ?_
      refine lv_iadd hx hb dM_weld_172 ?_
      refine lv_aload_n hx hb dM_weld_173 rfl (lv_at hl 0 rfl) ?_
      refine va_get (ci := 2) (v := .ref (am 2)) (C := RM9) (T := TM9) (N := 24) hx hb hts iM9 hown hK hP 0 (MWc_0 cI cL cZ hm am S3) rfl 4 (by decide) (hto (.fieldLink RM9 16 "PieceTraceModel" "length" "[I") (by decide +kernel)) (fun _ h9 => h9) rfl dM_weld_174 ?_
      refine lv_iload_n hx hb dM_weld_177 rfl (lv_at hl 1 rfl) ?_
      obtain ⟨hi8, hw⟩ := hw
      refine va_iald (f := (mLe S3)) hx hb hK hP 3 0 (MWc_3 cI cL cZ hm am S3) rfl hi8 dM_weld_178 ?_
      refine lv_aload_n hx hb dM_weld_179 rfl (lv_at hl 0 rfl) ?_
      refine va_get (ci := 2) (v := .ref (am 2)) (C := RM9) (T := TM9) (N := 24) hx hb hts iM9 hown hK hP 0 (MWc_0 cI cL cZ hm am S3) rfl 4 (by decide) (hto (.fieldLink RM9 16 "PieceTraceModel" "length" "[I") (by decide +kernel)) (fun _ h9 => h9) rfl dM_weld_180 ?_
      refine lv_iload_n hx hb dM_weld_183 rfl (lv_at hl 2 rfl) ?_
      obtain ⟨hi9, hw⟩ := hw
      refine va_iald (f := (mLe S3)) hx hb hK hP 3 0 (MWc_3 cI cL cZ hm am S3) rfl hi9 dM_weld_184 ?_
      refine lv_iadd hx hb dM_weld_185 ?_
      refine gk_i (wr := []) (wc := MW cI cL cZ hm am S3) (wfc := MW cI cL cZ hm am) hP hD hS hA (va_runV (As := [.int 3, .int p0, .int ((mWe S3 p0.toNatClampNeg) + (mWe S3 p1.toNatClampNeg)), .int ((mLe S3 p0.toNatClampNeg) + (mLe S3 p1.toNatClampNeg))]) (rest := []) C (c_M_add l hl9 D cI cL cZ hm am _ 3 p0 ((mWe S3 p0.toNatClampNeg) + (mWe S3 p1.toNatClampNeg)) ((mLe S3 p0.toNatClampNeg) + (mLe S3 p1.toNatClampNeg)) S3 hw H.size) (cwV 4 hts (gGV (by decide +kernel) kM_add) rfl rfl rfl (by decide +kernel) ⟨Nat.le_of_ble_eq_true rfl, Nat.le_of_ble_eq_true rfl⟩) (g_preV (wr := []) (wc := MW cI cL cZ hm am S3) (ci := 2) hK hG hA hP hD hS rfl (MWc_0 cI cL cZ hm am S3) rfl) rfl rfl hl.1 rfl (lv_room (Nat.le_of_ble_eq_true rfl)) dM_weld_186 ⟨Nat.le_of_ble_eq_true rfl, Nat.le_of_ble_eq_true rfl⟩) (fun r11 S10 H locs hw hP hD hS => ?_)
      have hP : va_P D vwCl (MW cI cL cZ hm am S10) H := hP
      have hD : va_D A (MW cI cL cZ hm am S10) := hD
      refine lv_istore (lv' := [(5, .int r11), (0, .ref hm), (1, .int p0), (2, .int p1)]) hx hb dM_weld_189 hl (by decide) rfl (fun ls hl => ?_)
      refine lv_aload_n hx hb dM_weld_191 rfl (lv_at hl 1 rfl) ?_
      refine va_get (ci := 2) (v := .ref (am 6)) (C := RM9) (T := TM9) (N := 24) hx hb hts iM9 hown hK hP 0 (MWc_0 cI cL cZ hm am S10) rfl 8 (by decide) (hto (.fieldLink RM9 29 "PieceTraceModel" "other" "[I") (by decide +kernel)) (fun _ h9 => h9) rfl dM_weld_192 ?_
      refine lv_iload hx hb dM_weld_195 (lv_at hl 0 rfl) ?_
      refine lv_iload_n hx hb dM_weld_197 rfl (lv_at hl 3 rfl) ?_
      obtain ⟨hi12, hw⟩ := hw
      refine g_iast (wf := MW cI cL cZ hm am) (S' := muOt S10 r11 p1) hx hb hK hP hD hS 7 0 (MWc_7 cI cL cZ hm am S10) rfl rfl hi12 dM_weld_198 (fun S13 eS13 H locs hP hD hS => ?_)
      have hw := hw S13 eS13
      refine lv_aload_n hx hb dM_weld_199 rfl (lv_at hl 1 rfl) ?_
      refine va_get (ci := 2) (v := .ref (am 3)) (C := RM9) (T := TM9) (N := 24) hx hb hts iM9 hown hK hP 0 (MWc_0 cI cL cZ hm am S13) rfl 5 (by decide) (hto (.fieldLink RM9 19 "PieceTraceModel" "state" "[I") (by decide +kernel)) (fun _ h9 => h9) rfl dM_weld_200 ?_
      refine lv_iload_n hx hb dM_weld_203 rfl (lv_at hl 3 rfl) ?_
      refine lv_iconst (v := 1) hx hb dM_weld_204 (by decide) ?_
      obtain ⟨hi14, hw⟩ := hw
      refine g_iast (wf := MW cI cL cZ hm am) (S' := muSt S13 p1 1) hx hb hK hP hD hS 4 0 (MWc_4 cI cL cZ hm am S13) rfl rfl hi14 dM_weld_205 (fun S15 eS15 H locs hP hD hS => ?_)
      have hw := hw S15 eS15
      refine lv_aload_n hx hb dM_weld_206 rfl (lv_at hl 1 rfl) ?_
      refine va_get (ci := 2) (v := .ref (am 10)) (C := RM9) (T := TM9) (N := 24) hx hb hts iM9 hown hK hP 0 (MWc_0 cI cL cZ hm am S15) rfl 12 (by decide) (hto (.fieldLink RM9 41 "PieceTraceModel" "rolls" "[I") (by decide +kernel)) (fun _ h9 => h9) rfl dM_weld_207 ?_
      refine lv_iload hx hb dM_weld_210 (lv_at hl 0 rfl) ?_
      refine lv_aload_n hx hb dM_weld_212 rfl (lv_at hl 1 rfl) ?_
      refine va_get (ci := 2) (v := .ref (am 10)) (C := RM9) (T := TM9) (N := 24) hx hb hts iM9 hown hK hP 0 (MWc_0 cI cL cZ hm am S15) rfl 12 (by decide) (hto (.fieldLink RM9 41 "PieceTraceModel" "rolls" "[I") (by decide +kernel)) (fun _ h9 => h9) rfl dM_weld_213 ?_
      refine lv_iload_n hx hb dM_weld_216 rfl (lv_at hl 2 rfl) ?_
      obtain ⟨hi16, hw⟩ := hw
      refine va_iald (f := (mRo S15)) hx hb hK hP 11 0 (MWc_11 cI cL cZ hm am S15) rfl hi16 dM_weld_217 ?_
      refine lv_aload_n hx hb dM_weld_218 rfl (lv_at hl 1 rfl) ?_
      refine va_get (ci := 2) (v := .ref (am 10)) (C := RM9) (T := TM9) (N := 24) hx hb hts iM9 hown hK hP 0 (MWc_0 cI cL cZ hm am S15) rfl 12 (by decide) (hto (.fieldLink RM9 41 "PieceTraceModel" "rolls" "[I") (by decide +kernel)) (fun _ h9 => h9) rfl dM_weld_219 ?_
      refine lv_iload_n hx hb dM_weld_222 rfl (lv_at hl 3 rfl) ?_
      obtain ⟨hi17, hw⟩ := hw
      refine va_iald (f := (mRo S15)) hx hb hK hP 11 0 (MWc_11 cI cL cZ hm am S15) rfl hi17 dM_weld_223 ?_
      refine lv_icmp_le (tgt := 236) hx hb dM_weld_224 (by decide) (fun c18 => ?_) (fun c18 => ?_)
      · have hw := hw.1 c18
        refine lv_aload_n hx hb dM_weld_236 rfl (lv_at hl 1 rfl) ?_
        refine va_get (ci := 2) (v := .ref (am 10)) (C := RM9) (T := TM9) (N := 24) hx hb hts iM9 hown hK hP 0 (MWc_0 cI cL cZ hm am S15) rfl 12 (by decide) (hto (.fieldLink RM9 41 "PieceTraceModel" "rolls" "[I") (by decide +kernel)) (fun _ h9 => h9) rfl dM_weld_237 ?_
        refine lv_iload_n hx hb dM_weld_240 rfl (lv_at hl 3 rfl) ?_
        obtain ⟨hi19, hw⟩ := hw
        refine va_iald (f := (mRo S15)) hx hb hK hP 11 0 (MWc_11 cI cL cZ hm am S15) rfl hi19 dM_weld_241 ?_
        exact hJ242 S15 r11 (mRo S15 p1.toNatClampNeg) r11   H locs ls hw hP hD hS (lv_sub hl [0] rfl)
      · have hw := hw.2 c18
        refine lv_aload_n hx hb dM_weld_227 rfl (lv_at hl 1 rfl) ?_
        refine va_get (ci := 2) (v := .ref (am 10)) (C := RM9) (T := TM9) (N := 24) hx hb hts iM9 hown hK hP 0 (MWc_0 cI cL cZ hm am S15) rfl 12 (by decide) (hto (.fieldLink RM9 41 "PieceTraceModel" "rolls" "[I") (by decide +kernel)) (fun _ h9 => h9) rfl dM_weld_228 ?_
        refine lv_iload_n hx hb dM_weld_231 rfl (lv_at hl 2 rfl) ?_
        obtain ⟨hi20, hw⟩ := hw
        refine va_iald (f := (mRo S15)) hx hb hK hP 11 0 (MWc_11 cI cL cZ hm am S15) rfl hi20 dM_weld_232 ?_
        refine lv_goto (tgt := 242) hx hb dM_weld_233 (by decide) ?_
        exact hJ242 S15 r11 (mRo S15 p0.toNatClampNeg) r11   H locs ls hw hP hD hS (lv_sub hl [0] rfl)
    · have hw := hw.2 c5
      refine lv_iconst (v := 0) hx hb dM_weld_155 (by decide) ?_
      exact gr_i hx hb hr hlocks hK hP hD hS hw (Nat.le_of_ble_eq_true rfl) (Nat.le_of_ble_eq_true rfl) dM_weld_156
  have hJ143 : ∀ (S : MSt) (t0 : Int32) (t1 : Int32), (t0 = 0 ∨ t0 = 1) → (t1 = 0 ∨ t1 = 1) → ∀ (H : Heap) (locs : List Loc) (ls : Array Slot), wpJ_M_weld_143 post p0 p1 S t0 t1 → va_P D vwCl (MW cI cL cZ hm am S) H → va_D A (MW cI cL cZ hm am S) → va_S A s.heap H locs → lv_has ls 6 [(0, .ref hm), (1, .int p0), (2, .int p1)] → W p l e (headSpec wsM_weld { frames := 3, cells := 0, slots := 0, locals := 64 }).room s m ([.ref hm, .int p0, .int p1] : List Value).toArray below meth c H locs 0 0 (MQ below (gQi D [(cI, .int), (cL, .long), (cZ, .boolean)] (MW cI cL cZ hm am) post A) ([.ref hm, .int p0, .int p1] : List Value).toArray s 0 0 A) (F0 m 143 ls [.int t0, .int t1, .ref hm]) := by
    intro S t0 t1 hbt0 hbt1 H locs ls hw hP hD hS hl
    dsimp only [wpJ_M_weld_143] at hw
    refine lv_iconst (v := 1) hx hb dM_weld_143 (by decide) ?_
    refine lv_goto (tgt := 148) hx hb dM_weld_144 (by decide) ?_
    exact hJ148 S 1 t0 t1  (Or.inr rfl) hbt0 hbt1 H locs ls hw hP hD hS (lv_sub hl [0, 1, 2] rfl)
  have hJ129 : ∀ (S : MSt) (u4 : Int32) (t0 : Int32) (t1 : Int32), (u4 = 0 ∨ u4 = 1) → (t0 = 0 ∨ t0 = 1) → (t1 = 0 ∨ t1 = 1) → ∀ (H : Heap) (locs : List Loc) (ls : Array Slot), wpJ_M_weld_129 post p0 p1 S u4 t0 t1 → va_P D vwCl (MW cI cL cZ hm am S) H → va_D A (MW cI cL cZ hm am S) → va_S A s.heap H locs → lv_has ls 6 [(4, .int u4), (0, .ref hm), (1, .int p0), (2, .int p1)] → W p l e (headSpec wsM_weld { frames := 3, cells := 0, slots := 0, locals := 64 }).room s m ([.ref hm, .int p0, .int p1] : List Value).toArray below meth c H locs 0 0 (MQ below (gQi D [(cI, .int), (cL, .long), (cZ, .boolean)] (MW cI cL cZ hm am) post A) ([.ref hm, .int p0, .int p1] : List Value).toArray s 0 0 A) (F0 m 129 ls [.int t0, .int t1, .ref hm]) := by
    intro S u4 t0 t1 hbu4 hbt0 hbt1 H locs ls hw hP hD hS hl
    dsimp only [wpJ_M_weld_129] at hw
    refine lv_aload_n hx hb dM_weld_129 rfl (lv_at hl 1 rfl) ?_
    refine va_get (ci := 2) (v := .int (mpc S)) (C := RM9) (T := TM9) (N := 24) hx hb hts iM9 hown hK hP 0 (MWc_0 cI cL cZ hm am S) rfl 1 (by decide) (hto (.fieldLink RM9 64 "PieceTraceModel" "pieces" "I") (by decide +kernel)) (fun _ h9 => h9) rfl dM_weld_130 ?_
    refine lv_bipush (v := 40) hx hb dM_weld_133 (by decide) ?_
    refine lv_icmp_eq (tgt := 143) hx hb dM_weld_135 (by decide) (fun c21 => ?_) (fun c21 => ?_)
    · have hw := hw.1 c21
      exact hJ143 S t0 t1  hbt0 hbt1 H locs ls hw hP hD hS (lv_sub hl [1, 2, 3] rfl)
    · have hw := hw.2 c21
      refine lv_iload hx hb dM_weld_138 (lv_at hl 0 rfl) ?_
      refine lv_if_eq (tgt := 147) hx hb dM_weld_140 (by decide) (fun c22 => ?_) (fun c22 => ?_)
      · have hw := hw.1 c22
        refine lv_iconst (v := 0) hx hb dM_weld_147 (by decide) ?_
        exact hJ148 S 0 t0 t1  (Or.inl rfl) hbt0 hbt1 H locs ls hw hP hD hS (lv_sub hl [1, 2, 3] rfl)
      · have hw := hw.2 c22
        exact hJ143 S t0 t1  hbt0 hbt1 H locs ls hw hP hD hS (lv_sub hl [1, 2, 3] rfl)
  have hJ124 : ∀ (S : MSt) (u4 : Int32) (t0 : Int32), (u4 = 0 ∨ u4 = 1) → (t0 = 0 ∨ t0 = 1) → ∀ (H : Heap) (locs : List Loc) (ls : Array Slot), wpJ_M_weld_124 post p0 p1 S u4 t0 → va_P D vwCl (MW cI cL cZ hm am S) H → va_D A (MW cI cL cZ hm am S) → va_S A s.heap H locs → lv_has ls 6 [(4, .int u4), (0, .ref hm), (1, .int p0), (2, .int p1)] → W p l e (headSpec wsM_weld { frames := 3, cells := 0, slots := 0, locals := 64 }).room s m ([.ref hm, .int p0, .int p1] : List Value).toArray below meth c H locs 0 0 (MQ below (gQi D [(cI, .int), (cL, .long), (cZ, .boolean)] (MW cI cL cZ hm am) post A) ([.ref hm, .int p0, .int p1] : List Value).toArray s 0 0 A) (F0 m 124 ls [.int t0, .ref hm]) := by
    intro S u4 t0 hbu4 hbt0 H locs ls hw hP hD hS hl
    dsimp only [wpJ_M_weld_124] at hw
    refine lv_iconst (v := 1) hx hb dM_weld_124 (by decide) ?_
    refine lv_goto (tgt := 129) hx hb dM_weld_125 (by decide) ?_
    exact hJ129 S u4 1 t0 hbu4 (Or.inr rfl) hbt0 H locs ls hw hP hD hS (lv_sub hl [0, 1, 2, 3] rfl)
  have hJ104 : ∀ (S : MSt) (u3 : Int32) (t0 : Int32), (u3 = 0 ∨ u3 = 1) → (t0 = 0 ∨ t0 = 1) → ∀ (H : Heap) (locs : List Loc) (ls : Array Slot), wpJ_M_weld_104 post p0 p1 S u3 t0 → va_P D vwCl (MW cI cL cZ hm am S) H → va_D A (MW cI cL cZ hm am S) → va_S A s.heap H locs → lv_has ls 6 [(3, .int u3), (0, .ref hm), (1, .int p0), (2, .int p1)] → W p l e (headSpec wsM_weld { frames := 3, cells := 0, slots := 0, locals := 64 }).room s m ([.ref hm, .int p0, .int p1] : List Value).toArray below meth c H locs 0 0 (MQ below (gQi D [(cI, .int), (cL, .long), (cZ, .boolean)] (MW cI cL cZ hm am) post A) ([.ref hm, .int p0, .int p1] : List Value).toArray s 0 0 A) (F0 m 104 ls [.int t0]) := by
    intro S u3 t0 hbu3 hbt0 H locs ls hw hP hD hS hl
    dsimp only [wpJ_M_weld_104] at hw
    refine lv_istore (lv' := [(4, .int t0), (3, .int u3), (0, .ref hm), (1, .int p0), (2, .int p1)]) hx hb dM_weld_104 hl (by decide) rfl (fun ls hl => ?_)
    refine lv_aload_n hx hb dM_weld_106 rfl (lv_at hl 2 rfl) ?_
    refine lv_iload_n hx hb dM_weld_107 rfl (lv_at hl 1 rfl) ?_
    refine lv_aload_n hx hb dM_weld_108 rfl (lv_at hl 2 rfl) ?_
    refine lv_iload_n hx hb dM_weld_109 rfl (lv_at hl 3 rfl) ?_
    refine gk_z (wr := []) (wc := MW cI cL cZ hm am S) (wfc := MW cI cL cZ hm am) hP hD hS hA (va_runV (As := [.int p0]) (rest := [.int u3, .ref hm]) C (c_M_isAtHand l hl9 D cI cL cZ hm am _ p0 S hw H.size) (cwV 1 hts (gGV (by decide +kernel) kM_isAtHand) rfl rfl rfl (by decide +kernel) ⟨Nat.le_of_ble_eq_true rfl, Nat.le_of_ble_eq_true rfl⟩) (g_preV (wr := []) (wc := MW cI cL cZ hm am S) (ci := 2) hK hG hA hP hD hS rfl (MWc_0 cI cL cZ hm am S) rfl) rfl rfl hl.1 rfl (lv_room (Nat.le_of_ble_eq_true rfl)) dM_weld_110 ⟨Nat.le_of_ble_eq_true rfl, Nat.le_of_ble_eq_true rfl⟩) (fun r24 S23 hbr24 H locs hw hP hD hS => ?_)
    have hP : va_P D vwCl (MW cI cL cZ hm am S23) H := hP
    have hD : va_D A (MW cI cL cZ hm am S23) := hD
    refine lv_if_eq (tgt := 124) hx hb dM_weld_113 (by decide) (fun c25 => ?_) (fun c25 => ?_)
    · have hw := hw.1 c25
      exact hJ124 S23 t0 u3 hbt0 hbu3 H locs ls hw hP hD hS (lv_sub hl [0, 2, 3, 4] rfl)
    · have hw := hw.2 c25
      refine lv_aload_n hx hb dM_weld_116 rfl (lv_at hl 2 rfl) ?_
      refine lv_iload_n hx hb dM_weld_117 rfl (lv_at hl 4 rfl) ?_
      refine gk_z (wr := []) (wc := MW cI cL cZ hm am S23) (wfc := MW cI cL cZ hm am) hP hD hS hA (va_runV (As := [.int p1]) (rest := [.int u3, .ref hm]) C (c_M_isAtHand l hl9 D cI cL cZ hm am _ p1 S23 hw H.size) (cwV 1 hts (gGV (by decide +kernel) kM_isAtHand) rfl rfl rfl (by decide +kernel) ⟨Nat.le_of_ble_eq_true rfl, Nat.le_of_ble_eq_true rfl⟩) (g_preV (wr := []) (wc := MW cI cL cZ hm am S23) (ci := 2) hK hG hA hP hD hS rfl (MWc_0 cI cL cZ hm am S23) rfl) rfl rfl hl.1 rfl (lv_room (Nat.le_of_ble_eq_true rfl)) dM_weld_118 ⟨Nat.le_of_ble_eq_true rfl, Nat.le_of_ble_eq_true rfl⟩) (fun r27 S26 hbr27 H locs hw hP hD hS => ?_)
      have hP : va_P D vwCl (MW cI cL cZ hm am S26) H := hP
      have hD : va_D A (MW cI cL cZ hm am S26) := hD
      refine lv_if_ne (tgt := 128) hx hb dM_weld_121 (by decide) (fun c28 => ?_) (fun c28 => ?_)
      · have hw := hw.2 c28
        refine lv_iconst (v := 0) hx hb dM_weld_128 (by decide) ?_
        exact hJ129 S26 t0 0 u3 hbt0 (Or.inl rfl) hbu3 H locs ls hw hP hD hS (lv_sub hl [0, 2, 3, 4] rfl)
      · have hw := hw.1 c28
        exact hJ124 S26 t0 u3 hbt0 hbu3 H locs ls hw hP hD hS (lv_sub hl [0, 2, 3, 4] rfl)
  have hJ103 : ∀ (S : MSt) (u3 : Int32), (u3 = 0 ∨ u3 = 1) → ∀ (H : Heap) (locs : List Loc) (ls : Array Slot), wpJ_M_weld_103 post p0 p1 S u3 → va_P D vwCl (MW cI cL cZ hm am S) H → va_D A (MW cI cL cZ hm am S) → va_S A s.heap H locs → lv_has ls 6 [(3, .int u3), (0, .ref hm), (1, .int p0), (2, .int p1)] → W p l e (headSpec wsM_weld { frames := 3, cells := 0, slots := 0, locals := 64 }).room s m ([.ref hm, .int p0, .int p1] : List Value).toArray below meth c H locs 0 0 (MQ below (gQi D [(cI, .int), (cL, .long), (cZ, .boolean)] (MW cI cL cZ hm am) post A) ([.ref hm, .int p0, .int p1] : List Value).toArray s 0 0 A) (F0 m 103 ls []) := by
    intro S u3 hbu3 H locs ls hw hP hD hS hl
    dsimp only [wpJ_M_weld_103] at hw
    refine lv_iconst (v := 0) hx hb dM_weld_103 (by decide) ?_
    exact hJ104 S u3 0 hbu3 (Or.inl rfl) H locs ls hw hP hD hS (lv_sub hl [0, 1, 2, 3] rfl)
  have hJ99 : ∀ (S : MSt) (u3 : Int32), (u3 = 0 ∨ u3 = 1) → ∀ (H : Heap) (locs : List Loc) (ls : Array Slot), wpJ_M_weld_99 post p0 p1 S u3 → va_P D vwCl (MW cI cL cZ hm am S) H → va_D A (MW cI cL cZ hm am S) → va_S A s.heap H locs → lv_has ls 6 [(3, .int u3), (0, .ref hm), (1, .int p0), (2, .int p1)] → W p l e (headSpec wsM_weld { frames := 3, cells := 0, slots := 0, locals := 64 }).room s m ([.ref hm, .int p0, .int p1] : List Value).toArray below meth c H locs 0 0 (MQ below (gQi D [(cI, .int), (cL, .long), (cZ, .boolean)] (MW cI cL cZ hm am) post A) ([.ref hm, .int p0, .int p1] : List Value).toArray s 0 0 A) (F0 m 99 ls []) := by
    intro S u3 hbu3 H locs ls hw hP hD hS hl
    dsimp only [wpJ_M_weld_99] at hw
    refine lv_iconst (v := 1) hx hb dM_weld_99 (by decide) ?_
    refine lv_goto (tgt := 104) hx hb dM_weld_100 (by decide) ?_
    exact hJ104 S u3 1 hbu3 (Or.inr rfl) H locs ls hw hP hD hS (lv_sub hl [0, 1, 2, 3] rfl)
  have hJ94 : ∀ (S : MSt) (u3 : Int32) (t0 : Int32) (t2 : Int32) (t3 : Int32), (u3 = 0 ∨ u3 = 1) → ∀ (H : Heap) (locs : List Loc) (ls : Array Slot), wpJ_M_weld_94 post p0 p1 S u3 t0 t2 t3 → va_P D vwCl (MW cI cL cZ hm am S) H → va_D A (MW cI cL cZ hm am S) → va_S A s.heap H locs → lv_has ls 6 [(3, .int u3), (0, .ref hm), (1, .int p0), (2, .int p1)] → W p l e (headSpec wsM_weld { frames := 3, cells := 0, slots := 0, locals := 64 }).room s m ([.ref hm, .int p0, .int p1] : List Value).toArray below meth c H locs 0 0 (MQ below (gQi D [(cI, .int), (cL, .long), (cZ, .boolean)] (MW cI cL cZ hm am) post A) ([.ref hm, .int p0, .int p1] : List Value).toArray s 0 0 A) (F0 m 94 ls [.int t0, .ref (am 2), .int t2, .int t3]) := by
    intro S u3 t0 t2 t3 hbu3 H locs ls hw hP hD hS hl
    dsimp only [wpJ_M_weld_94] at hw
    obtain ⟨hi29, hw⟩ := hw
    refine va_iald (f := (mLe S)) hx hb hK hP 3 0 (MWc_3 cI cL cZ hm am S) rfl hi29 dM_weld_94 ?_
    refine lv_isub hx hb dM_weld_95 ?_
    refine lv_icmp_le (tgt := 103) hx hb dM_weld_96 (by decide) (fun c30 => ?_) (fun c30 => ?_)
    · have hw := hw.1 c30
      exact hJ103 S u3 hbu3  H locs ls hw hP hD hS (lv_sub hl [0, 1, 2, 3] rfl)
    · have hw := hw.2 c30
      exact hJ99 S u3 hbu3  H locs ls hw hP hD hS (lv_sub hl [0, 1, 2, 3] rfl)
  have hJ78 : ∀ (S : MSt) (u3 : Int32) (t0 : Int32), (u3 = 0 ∨ u3 = 1) → ∀ (H : Heap) (locs : List Loc) (ls : Array Slot), wpJ_M_weld_78 post p0 p1 S u3 t0 → va_P D vwCl (MW cI cL cZ hm am S) H → va_D A (MW cI cL cZ hm am S) → va_S A s.heap H locs → lv_has ls 6 [(3, .int u3), (0, .ref hm), (1, .int p0), (2, .int p1)] → W p l e (headSpec wsM_weld { frames := 3, cells := 0, slots := 0, locals := 64 }).room s m ([.ref hm, .int p0, .int p1] : List Value).toArray below meth c H locs 0 0 (MQ below (gQi D [(cI, .int), (cL, .long), (cZ, .boolean)] (MW cI cL cZ hm am) post A) ([.ref hm, .int p0, .int p1] : List Value).toArray s 0 0 A) (F0 m 78 ls [.int t0, .ref (am 2)]) := by
    intro S u3 t0 hbu3 H locs ls hw hP hD hS hl
    dsimp only [wpJ_M_weld_78] at hw
    obtain ⟨hi31, hw⟩ := hw
    refine va_iald (f := (mLe S)) hx hb hK hP 3 0 (MWc_3 cI cL cZ hm am S) rfl hi31 dM_weld_78 ?_
    refine lv_ldc (v := 1000000000) hx hb hown (hto (.constant RM9 91 1000000000) (by decide +kernel)) dM_weld_79 ?_
    refine lv_aload_n hx hb dM_weld_81 rfl (lv_at hl 1 rfl) ?_
    refine va_get (ci := 2) (v := .ref (am 2)) (C := RM9) (T := TM9) (N := 24) hx hb hts iM9 hown hK hP 0 (MWc_0 cI cL cZ hm am S) rfl 4 (by decide) (hto (.fieldLink RM9 16 "PieceTraceModel" "length" "[I") (by decide +kernel)) (fun _ h9 => h9) rfl dM_weld_82 ?_
    refine lv_iload_n hx hb dM_weld_85 rfl (lv_at hl 0 rfl) ?_
    refine lv_if_eq (tgt := 93) hx hb dM_weld_86 (by decide) (fun c32 => ?_) (fun c32 => ?_)
    · have hw := hw.1 c32
      refine lv_iload_n hx hb dM_weld_93 rfl (lv_at hl 3 rfl) ?_
      exact hJ94 S u3 p1 1000000000 (mLe S t0.toNatClampNeg) hbu3  H locs ls hw hP hD hS (lv_sub hl [0, 1, 2, 3] rfl)
    · have hw := hw.2 c32
      refine lv_iconst (v := 0) hx hb dM_weld_89 (by decide) ?_
      refine lv_goto (tgt := 94) hx hb dM_weld_90 (by decide) ?_
      exact hJ94 S u3 0 1000000000 (mLe S t0.toNatClampNeg) hbu3  H locs ls hw hP hD hS (lv_sub hl [0, 1, 2, 3] rfl)
  have hJ60 : ∀ (S : MSt) (u3 : Int32) (t0 : Int32) (t2 : Int32) (t3 : Int32), (u3 = 0 ∨ u3 = 1) → ∀ (H : Heap) (locs : List Loc) (ls : Array Slot), wpJ_M_weld_60 post p0 p1 S u3 t0 t2 t3 → va_P D vwCl (MW cI cL cZ hm am S) H → va_D A (MW cI cL cZ hm am S) → va_S A s.heap H locs → lv_has ls 6 [(3, .int u3), (0, .ref hm), (1, .int p0), (2, .int p1)] → W p l e (headSpec wsM_weld { frames := 3, cells := 0, slots := 0, locals := 64 }).room s m ([.ref hm, .int p0, .int p1] : List Value).toArray below meth c H locs 0 0 (MQ below (gQi D [(cI, .int), (cL, .long), (cZ, .boolean)] (MW cI cL cZ hm am) post A) ([.ref hm, .int p0, .int p1] : List Value).toArray s 0 0 A) (F0 m 60 ls [.int t0, .ref (am 1), .int t2, .int t3]) := by
    intro S u3 t0 t2 t3 hbu3 H locs ls hw hP hD hS hl
    dsimp only [wpJ_M_weld_60] at hw
    obtain ⟨hi33, hw⟩ := hw
    refine va_iald (f := (mWe S)) hx hb hK hP 2 0 (MWc_2 cI cL cZ hm am S) rfl hi33 dM_weld_60 ?_
    refine lv_isub hx hb dM_weld_61 ?_
    refine lv_icmp_gt (tgt := 99) hx hb dM_weld_62 (by decide) (fun c34 => ?_) (fun c34 => ?_)
    · have hw := hw.1 c34
      exact hJ99 S u3 hbu3  H locs ls hw hP hD hS (lv_sub hl [0, 1, 2, 3] rfl)
    · have hw := hw.2 c34
      refine lv_aload_n hx hb dM_weld_65 rfl (lv_at hl 1 rfl) ?_
      refine va_get (ci := 2) (v := .ref (am 2)) (C := RM9) (T := TM9) (N := 24) hx hb hts iM9 hown hK hP 0 (MWc_0 cI cL cZ hm am S) rfl 4 (by decide) (hto (.fieldLink RM9 16 "PieceTraceModel" "length" "[I") (by decide +kernel)) (fun _ h9 => h9) rfl dM_weld_66 ?_
      refine lv_iload_n hx hb dM_weld_69 rfl (lv_at hl 0 rfl) ?_
      refine lv_if_eq (tgt := 77) hx hb dM_weld_70 (by decide) (fun c35 => ?_) (fun c35 => ?_)
      · have hw := hw.1 c35
        refine lv_iload_n hx hb dM_weld_77 rfl (lv_at hl 2 rfl) ?_
        exact hJ78 S u3 p0 hbu3  H locs ls hw hP hD hS (lv_sub hl [0, 1, 2, 3] rfl)
      · have hw := hw.2 c35
        refine lv_iconst (v := 0) hx hb dM_weld_73 (by decide) ?_
        refine lv_goto (tgt := 78) hx hb dM_weld_74 (by decide) ?_
        exact hJ78 S u3 0 hbu3  H locs ls hw hP hD hS (lv_sub hl [0, 1, 2, 3] rfl)
  have hJ44 : ∀ (S : MSt) (u3 : Int32) (t0 : Int32), (u3 = 0 ∨ u3 = 1) → ∀ (H : Heap) (locs : List Loc) (ls : Array Slot), wpJ_M_weld_44 post p0 p1 S u3 t0 → va_P D vwCl (MW cI cL cZ hm am S) H → va_D A (MW cI cL cZ hm am S) → va_S A s.heap H locs → lv_has ls 6 [(3, .int u3), (0, .ref hm), (1, .int p0), (2, .int p1)] → W p l e (headSpec wsM_weld { frames := 3, cells := 0, slots := 0, locals := 64 }).room s m ([.ref hm, .int p0, .int p1] : List Value).toArray below meth c H locs 0 0 (MQ below (gQi D [(cI, .int), (cL, .long), (cZ, .boolean)] (MW cI cL cZ hm am) post A) ([.ref hm, .int p0, .int p1] : List Value).toArray s 0 0 A) (F0 m 44 ls [.int t0, .ref (am 1)]) := by
    intro S u3 t0 hbu3 H locs ls hw hP hD hS hl
    dsimp only [wpJ_M_weld_44] at hw
    obtain ⟨hi36, hw⟩ := hw
    refine va_iald (f := (mWe S)) hx hb hK hP 2 0 (MWc_2 cI cL cZ hm am S) rfl hi36 dM_weld_44 ?_
    refine lv_ldc (v := 1000000000) hx hb hown (hto (.constant RM9 91 1000000000) (by decide +kernel)) dM_weld_45 ?_
    refine lv_aload_n hx hb dM_weld_47 rfl (lv_at hl 1 rfl) ?_
    refine va_get (ci := 2) (v := .ref (am 1)) (C := RM9) (T := TM9) (N := 24) hx hb hts iM9 hown hK hP 0 (MWc_0 cI cL cZ hm am S) rfl 3 (by decide) (hto (.fieldLink RM9 13 "PieceTraceModel" "weight" "[I") (by decide +kernel)) (fun _ h9 => h9) rfl dM_weld_48 ?_
    refine lv_iload_n hx hb dM_weld_51 rfl (lv_at hl 0 rfl) ?_
    refine lv_if_eq (tgt := 59) hx hb dM_weld_52 (by decide) (fun c37 => ?_) (fun c37 => ?_)
    · have hw := hw.1 c37
      refine lv_iload_n hx hb dM_weld_59 rfl (lv_at hl 3 rfl) ?_
      exact hJ60 S u3 p1 1000000000 (mWe S t0.toNatClampNeg) hbu3  H locs ls hw hP hD hS (lv_sub hl [0, 1, 2, 3] rfl)
    · have hw := hw.2 c37
      refine lv_iconst (v := 0) hx hb dM_weld_55 (by decide) ?_
      refine lv_goto (tgt := 60) hx hb dM_weld_56 (by decide) ?_
      exact hJ60 S u3 0 1000000000 (mWe S t0.toNatClampNeg) hbu3  H locs ls hw hP hD hS (lv_sub hl [0, 1, 2, 3] rfl)
  have hJ26 : ∀ (S : MSt) (t0 : Int32), (t0 = 0 ∨ t0 = 1) → ∀ (H : Heap) (locs : List Loc) (ls : Array Slot), wpJ_M_weld_26 post p0 p1 S t0 → va_P D vwCl (MW cI cL cZ hm am S) H → va_D A (MW cI cL cZ hm am S) → va_S A s.heap H locs → lv_has ls 6 [(0, .ref hm), (1, .int p0), (2, .int p1)] → W p l e (headSpec wsM_weld { frames := 3, cells := 0, slots := 0, locals := 64 }).room s m ([.ref hm, .int p0, .int p1] : List Value).toArray below meth c H locs 0 0 (MQ below (gQi D [(cI, .int), (cL, .long), (cZ, .boolean)] (MW cI cL cZ hm am) post A) ([.ref hm, .int p0, .int p1] : List Value).toArray s 0 0 A) (F0 m 26 ls [.int t0]) := by
    intro S t0 hbt0 H locs ls hw hP hD hS hl
    dsimp only [wpJ_M_weld_26] at hw
    refine lv_istore_n (lv' := [(3, .int t0), (0, .ref hm), (1, .int p0), (2, .int p1)]) hx hb dM_weld_26 rfl hl (by decide) rfl (fun ls hl => ?_)
    refine lv_iload_n hx hb dM_weld_27 rfl (lv_at hl 0 rfl) ?_
    refine lv_if_ne (tgt := 103) hx hb dM_weld_28 (by decide) (fun c38 => ?_) (fun c38 => ?_)
    · have hw := hw.2 c38
      exact hJ103 S t0 hbt0  H locs ls hw hP hD hS (lv_sub hl [0, 1, 2, 3] rfl)
    · have hw := hw.1 c38
      refine lv_aload_n hx hb dM_weld_31 rfl (lv_at hl 1 rfl) ?_
      refine va_get (ci := 2) (v := .ref (am 1)) (C := RM9) (T := TM9) (N := 24) hx hb hts iM9 hown hK hP 0 (MWc_0 cI cL cZ hm am S) rfl 3 (by decide) (hto (.fieldLink RM9 13 "PieceTraceModel" "weight" "[I") (by decide +kernel)) (fun _ h9 => h9) rfl dM_weld_32 ?_
      refine lv_iload_n hx hb dM_weld_35 rfl (lv_at hl 0 rfl) ?_
      refine lv_if_eq (tgt := 43) hx hb dM_weld_36 (by decide) (fun _ => ?_) (fun c9 => absurd c38 c9)
      refine lv_iload_n hx hb dM_weld_43 rfl (lv_at hl 2 rfl) ?_
      exact hJ44 S t0 p0 hbt0  H locs ls hw hP hD hS (lv_sub hl [0, 1, 2, 3] rfl)
  have hJ21 : ∀ (S : MSt) , ∀ (H : Heap) (locs : List Loc) (ls : Array Slot), wpJ_M_weld_21 post p0 p1 S  → va_P D vwCl (MW cI cL cZ hm am S) H → va_D A (MW cI cL cZ hm am S) → va_S A s.heap H locs → lv_has ls 6 [(0, .ref hm), (1, .int p0), (2, .int p1)] → W p l e (headSpec wsM_weld { frames := 3, cells := 0, slots := 0, locals := 64 }).room s m ([.ref hm, .int p0, .int p1] : List Value).toArray below meth c H locs 0 0 (MQ below (gQi D [(cI, .int), (cL, .long), (cZ, .boolean)] (MW cI cL cZ hm am) post A) ([.ref hm, .int p0, .int p1] : List Value).toArray s 0 0 A) (F0 m 21 ls []) := by
    intro S   H locs ls hw hP hD hS hl
    dsimp only [wpJ_M_weld_21] at hw
    refine lv_iconst (v := 1) hx hb dM_weld_21 (by decide) ?_
    refine lv_goto (tgt := 26) hx hb dM_weld_22 (by decide) ?_
    exact hJ26 S 1  (Or.inr rfl) H locs ls hw hP hD hS (lv_sub hl [0, 1, 2] rfl)
  dsimp only [wp_M_weld] at hw
  refine lv_aload_n hx hb dM_weld_0 rfl (lv_at hl 0 rfl) ?_
  refine lv_iload_n hx hb dM_weld_1 rfl (lv_at hl 1 rfl) ?_
  refine gk_z (wr := []) (wc := MW cI cL cZ hm am S) (wfc := MW cI cL cZ hm am) hP hD hS hA (va_runV (As := [.int p0]) (rest := []) C (c_M_isPiece l hl9 D cI cL cZ hm am _ p0 S hw H.size) (cwV 1 hts (gGV (by decide +kernel) kM_isPiece) rfl rfl rfl (by decide +kernel) ⟨Nat.le_of_ble_eq_true rfl, Nat.le_of_ble_eq_true rfl⟩) (g_preV (wr := []) (wc := MW cI cL cZ hm am S) (ci := 2) hK hG hA hP hD hS rfl (MWc_0 cI cL cZ hm am S) rfl) rfl rfl hl.1 rfl (lv_room (Nat.le_of_ble_eq_true rfl)) dM_weld_2 ⟨Nat.le_of_ble_eq_true rfl, Nat.le_of_ble_eq_true rfl⟩) (fun r40 S39 hbr40 H locs hw hP hD hS => ?_)
  have hP : va_P D vwCl (MW cI cL cZ hm am S39) H := hP
  have hD : va_D A (MW cI cL cZ hm am S39) := hD
  refine lv_if_eq (tgt := 21) hx hb dM_weld_5 (by decide) (fun c41 => ?_) (fun c41 => ?_)
  · have hw := hw.1 c41
    exact hJ21 S39    H locs ls hw hP hD hS (lv_sub hl [0, 1, 2] rfl)
  · have hw := hw.2 c41
    refine lv_aload_n hx hb dM_weld_8 rfl (lv_at hl 0 rfl) ?_
    refine lv_iload_n hx hb dM_weld_9 rfl (lv_at hl 2 rfl) ?_
    refine gk_z (wr := []) (wc := MW cI cL cZ hm am S39) (wfc := MW cI cL cZ hm am) hP hD hS hA (va_runV (As := [.int p1]) (rest := []) C (c_M_isPiece l hl9 D cI cL cZ hm am _ p1 S39 hw H.size) (cwV 1 hts (gGV (by decide +kernel) kM_isPiece) rfl rfl rfl (by decide +kernel) ⟨Nat.le_of_ble_eq_true rfl, Nat.le_of_ble_eq_true rfl⟩) (g_preV (wr := []) (wc := MW cI cL cZ hm am S39) (ci := 2) hK hG hA hP hD hS rfl (MWc_0 cI cL cZ hm am S39) rfl) rfl rfl hl.1 rfl (lv_room (Nat.le_of_ble_eq_true rfl)) dM_weld_10 ⟨Nat.le_of_ble_eq_true rfl, Nat.le_of_ble_eq_true rfl⟩) (fun r43 S42 hbr43 H locs hw hP hD hS => ?_)
    have hP : va_P D vwCl (MW cI cL cZ hm am S42) H := hP
    have hD : va_D A (MW cI cL cZ hm am S42) := hD
    refine lv_if_eq (tgt := 21) hx hb dM_weld_13 (by decide) (fun c44 => ?_) (fun c44 => ?_)
    · have hw := hw.1 c44
      exact hJ21 S42    H locs ls hw hP hD hS (lv_sub hl [0, 1, 2] rfl)
    · have hw := hw.2 c44
      refine lv_iload_n hx hb dM_weld_16 rfl (lv_at hl 1 rfl) ?_
      refine lv_iload_n hx hb dM_weld_17 rfl (lv_at hl 2 rfl) ?_
      refine lv_icmp_ne (tgt := 25) hx hb dM_weld_18 (by decide) (fun c45 => ?_) (fun c45 => ?_)
      · have hw := hw.2 c45
        refine lv_iconst (v := 0) hx hb dM_weld_25 (by decide) ?_
        exact hJ26 S42 0  (Or.inl rfl) H locs ls hw hP hD hS (lv_sub hl [0, 1, 2] rfl)
      · have hw := hw.1 c45
        exact hJ21 S42    H locs ls hw hP hD hS (lv_sub hl [0, 1, 2] rfl)
def wpJ_M_roll_143 (post : Int32 → MSt → Prop) (p0 : Int32) (p1 : Int32) (p2 : Int32) (S : MSt) (u5 : Int32) (u6 : Int64) (u8 : Int32) (t0 : Int32) (t1 : Int32) : Prop := (wp_M_throwing (fun r2 S1 => ((r2 = 0 → (vp_in p0 40 ∧ (wp_M_add (fun r6 S5 => (vp_in r6 40 ∧ (∀ S8 : MSt, S8 = muOv S5 r6 p1 → (vp_in r6 40 ∧ (∀ S10 : MSt, S10 = muUn S8 r6 p2 → (vp_in r6 40 ∧ (vp_in r6 40 ∧ (∀ S13 : MSt, S13 = muRo S10 r6 ((mRo S10 r6.toNatClampNeg) + 1) → (post r6 S13))))))))) 4 p0 (mWe S1 p0.toNatClampNeg) u6.toInt32 S1))) ∧ (¬ r2 = 0 → (post 0 S1)))) t1 t0 u5 u8 S)
def wpJ_M_roll_125 (post : Int32 → MSt → Prop) (p0 : Int32) (p1 : Int32) (p2 : Int32) (S : MSt) (u4 : Int32) (u5 : Int32) (u6 : Int64) (t0 : Int32) : Prop := (wp_M_isAtHand (fun r15 S14 => ((r15 = 0 → (wpJ_M_roll_143 post p0 p1 p2 S14 u5 u6 t0 1 u4)) ∧ (¬ r15 = 0 → (wpJ_M_roll_143 post p0 p1 p2 S14 u5 u6 t0 0 u4)))) p0 S)
def wpJ_M_roll_120 (post : Int32 → MSt → Prop) (p0 : Int32) (p1 : Int32) (p2 : Int32) (S : MSt) (u4 : Int32) (u5 : Int32) (u6 : Int64) : Prop := (wpJ_M_roll_125 post p0 p1 p2 S u4 u5 u6 1)
def wpJ_M_roll_104 (post : Int32 → MSt → Prop) (p0 : Int32) (p1 : Int32) (p2 : Int32) (S : MSt) (u4 : Int32) (u5 : Int32) (u6 : Int64) : Prop := ((u6 < 1 → (wpJ_M_roll_120 post p0 p1 p2 S u4 u5 u6)) ∧ (¬ u6 < 1 → ((u6 ≤ 1000000000 → (wpJ_M_roll_125 post p0 p1 p2 S u4 u5 u6 0)) ∧ (¬ u6 ≤ 1000000000 → (wpJ_M_roll_120 post p0 p1 p2 S u4 u5 u6)))))
def wpJ_M_roll_99 (post : Int32 → MSt → Prop) (p0 : Int32) (p1 : Int32) (p2 : Int32) (S : MSt) (u4 : Int32) (u5 : Int32) (u6 : Int64) (t0 : Int32) : Prop := (vp_in t0 40 ∧ (((mRo S t0.toNatClampNeg) = 3 → (wpJ_M_roll_120 post p0 p1 p2 S u4 u5 u6)) ∧ (¬ (mRo S t0.toNatClampNeg) = 3 → (wpJ_M_roll_104 post p0 p1 p2 S u4 u5 u6))))
def wpJ_M_roll_69 (post : Int32 → MSt → Prop) (p0 : Int32) (p1 : Int32) (p2 : Int32) (S : MSt) (u4 : Int32) (u5 : Int32) (t0 : Int64) : Prop := (((mpc S) = 40 → (wpJ_M_roll_120 post p0 p1 p2 S u4 u5 t0)) ∧ (¬ (mpc S) = 40 → ((u4 = 0 → (wpJ_M_roll_99 post p0 p1 p2 S u4 u5 t0 p0)) ∧ (¬ u4 = 0 → (wpJ_M_roll_104 post p0 p1 p2 S u4 u5 t0)))))
def wpJ_M_roll_52 (post : Int32 → MSt → Prop) (p0 : Int32) (p1 : Int32) (p2 : Int32) (S : MSt) (u4 : Int32) (u5 : Int32) : Prop := (wpJ_M_roll_69 post p0 p1 p2 S u4 u5 1)
def wpJ_M_roll_40 (post : Int32 → MSt → Prop) (p0 : Int32) (p1 : Int32) (p2 : Int32) (S : MSt) (u4 : Int32) (t0 : Int32) : Prop := ((u4 = 0 → ((t0 = 0 → (vp_in p0 40 ∧ (¬ p2.toInt64 = 0 ∧ (wpJ_M_roll_69 post p0 p1 p2 S u4 t0 (((mLe S p0.toNatClampNeg).toInt64 * p1.toInt64) / p2.toInt64))))) ∧ (¬ t0 = 0 → (wpJ_M_roll_52 post p0 p1 p2 S u4 t0)))) ∧ (¬ u4 = 0 → (wpJ_M_roll_52 post p0 p1 p2 S u4 t0)))
def wpJ_M_roll_35 (post : Int32 → MSt → Prop) (p0 : Int32) (p1 : Int32) (p2 : Int32) (S : MSt) (u4 : Int32) : Prop := (wpJ_M_roll_40 post p0 p1 p2 S u4 1)
def wpJ_M_roll_13 (post : Int32 → MSt → Prop) (p0 : Int32) (p1 : Int32) (p2 : Int32) (S : MSt) (t0 : Int32) : Prop := (wp_M_in (fun r28 S27 => ((r28 = 0 → (wpJ_M_roll_35 post p0 p1 p2 S27 t0)) ∧ (¬ r28 = 0 → (wp_M_in (fun r31 S30 => ((r31 = 0 → (wpJ_M_roll_35 post p0 p1 p2 S30 t0)) ∧ (¬ r31 = 0 → (wpJ_M_roll_40 post p0 p1 p2 S30 t0 0)))) p2 1 20 S27)))) p1 1 20 S)
def wp_M_roll (post : Int32 → MSt → Prop) (p0 : Int32) (p1 : Int32) (p2 : Int32) (S : MSt) : Prop := (wp_M_isPiece (fun r34 S33 => ((r34 = 0 → (wpJ_M_roll_13 post p0 p1 p2 S33 1)) ∧ (¬ r34 = 0 → (wpJ_M_roll_13 post p0 p1 p2 S33 0)))) p0 S)
set_option maxHeartbeats 4000000 in
set_option maxRecDepth 100000 in
theorem c_M_roll (l : Launch) (hl9 : l.stackTraces = false) (D : va_G) (cI cL cZ : ClassId) (hm : Nat) (am : Nat → Nat) (post : Int32 → MSt → Prop) (p0 : Int32) (p1 : Int32) (p2 : Int32) (S : MSt) (hw : wp_M_roll post p0 p1 p2 S) : gMi l yM_roll wsM_roll ({ frames := 3, cells := 0, slots := 0, locals := 64 }) D [(cI, .int), (cL, .long), (cZ, .boolean)] [.ref hm, .int p0, .int p1, .int p2] (MW cI cL cZ hm am S) (MW cI cL cZ hm am) post := by
  refine g_ofMi (cc := cM_roll) (maxL := 10) (ret := (some .int)) (own := RM9) (by decide) rfl rfl (Nat.le_of_ble_eq_true rfl) ?_
  intro p e s m below meth c A H locs ls C hr hlocks hK hG hA hP hD hS hl
  obtain ⟨hx, hb, hml, hown, hts⟩ := id C
  have hts := fun w (h9 : w ∈ gW) => hts w (List.mem_cons_of_mem _ h9)
  have hto := fun w (h9 : w ∈ gWo) => hts w (gWo_in w h9)
  have hl : lv_has ls 10 [(0, .ref hm), (1, .int p0), (2, .int p1), (3, .int p2)] := hl
  have hJ143 : ∀ (S : MSt) (u5 : Int32) (u6 : Int64) (u8 : Int32) (t0 : Int32) (t1 : Int32), (u5 = 0 ∨ u5 = 1) → (u8 = 0 ∨ u8 = 1) → (t0 = 0 ∨ t0 = 1) → (t1 = 0 ∨ t1 = 1) → ∀ (H : Heap) (locs : List Loc) (ls : Array Slot), wpJ_M_roll_143 post p0 p1 p2 S u5 u6 u8 t0 t1 → va_P D vwCl (MW cI cL cZ hm am S) H → va_D A (MW cI cL cZ hm am S) → va_S A s.heap H locs → lv_has ls 10 [(5, .int u5), (6, .long u6), (8, .int u8), (0, .ref hm), (1, .int p0), (2, .int p1), (3, .int p2)] → W p l e (headSpec wsM_roll { frames := 3, cells := 0, slots := 0, locals := 64 }).room s m ([.ref hm, .int p0, .int p1, .int p2] : List Value).toArray below meth c H locs 0 0 (MQ below (gQi D [(cI, .int), (cL, .long), (cZ, .boolean)] (MW cI cL cZ hm am) post A) ([.ref hm, .int p0, .int p1, .int p2] : List Value).toArray s 0 0 A) (F0 m 143 ls [.int t0, .int t1, .ref hm]) := by
    intro S u5 u6 u8 t0 t1 hbu5 hbu8 hbt0 hbt1 H locs ls hw hP hD hS hl
    dsimp only [wpJ_M_roll_143] at hw
    refine lv_iload hx hb dM_roll_143 (lv_at hl 0 rfl) ?_
    refine lv_iload hx hb dM_roll_145 (lv_at hl 2 rfl) ?_
    refine gk_z (wr := []) (wc := MW cI cL cZ hm am S) (wfc := MW cI cL cZ hm am) hP hD hS hA (va_runV (As := [.int t1, .int t0, .int u5, .int u8]) (rest := []) C (c_M_throwing l hl9 D cI cL cZ hm am _ t1 t0 u5 u8 S hw H.size) (cwV 4 hts (gGV (by decide +kernel) kM_throwing) rfl rfl rfl (by decide +kernel) ⟨Nat.le_of_ble_eq_true rfl, Nat.le_of_ble_eq_true rfl⟩) (g_preV (wr := []) (wc := MW cI cL cZ hm am S) (ci := 2) hK hG hA hP hD hS rfl (MWc_0 cI cL cZ hm am S) rfl) rfl rfl hl.1 rfl (lv_room (Nat.le_of_ble_eq_true rfl)) dM_roll_147 ⟨Nat.le_of_ble_eq_true rfl, Nat.le_of_ble_eq_true rfl⟩) (fun r2 S1 hbr2 H locs hw hP hD hS => ?_)
    have hP : va_P D vwCl (MW cI cL cZ hm am S1) H := hP
    have hD : va_D A (MW cI cL cZ hm am S1) := hD
    refine lv_if_eq (tgt := 155) hx hb dM_roll_150 (by decide) (fun c3 => ?_) (fun c3 => ?_)
    · have hw := hw.1 c3
      refine lv_aload_n hx hb dM_roll_155 rfl (lv_at hl 3 rfl) ?_
      refine lv_iconst (v := 4) hx hb dM_roll_156 (by decide) ?_
      refine lv_iload_n hx hb dM_roll_157 rfl (lv_at hl 4 rfl) ?_
      refine lv_aload_n hx hb dM_roll_158 rfl (lv_at hl 3 rfl) ?_
      refine va_get (ci := 2) (v := .ref (am 1)) (C := RM9) (T := TM9) (N := 24) hx hb hts iM9 hown hK hP 0 (MWc_0 cI cL cZ hm am S1) rfl 3 (by decide) (hto (.fieldLink RM9 13 "PieceTraceModel" "weight" "[I") (by decide +kernel)) (fun _ h9 => h9) rfl dM_roll_159 ?_
      refine lv_iload_n hx hb dM_roll_162 rfl (lv_at hl 4 rfl) ?_
      obtain ⟨hi4, hw⟩ := hw
      refine va_iald (f := (mWe S1)) hx hb hK hP 2 0 (MWc_2 cI cL cZ hm am S1) rfl hi4 dM_roll_163 ?_
      refine lv_lload hx hb dM_roll_164 (lv_at hl 1 rfl) ?_
      refine lv_l2i (v := u6.toInt32) hx hb dM_roll_166 rfl ?_
      refine gk_i (wr := []) (wc := MW cI cL cZ hm am S1) (wfc := MW cI cL cZ hm am) hP hD hS hA (va_runV (As := [.int 4, .int p0, .int (mWe S1 p0.toNatClampNeg), .int u6.toInt32]) (rest := []) C (c_M_add l hl9 D cI cL cZ hm am _ 4 p0 (mWe S1 p0.toNatClampNeg) u6.toInt32 S1 hw H.size) (cwV 4 hts (gGV (by decide +kernel) kM_add) rfl rfl rfl (by decide +kernel) ⟨Nat.le_of_ble_eq_true rfl, Nat.le_of_ble_eq_true rfl⟩) (g_preV (wr := []) (wc := MW cI cL cZ hm am S1) (ci := 2) hK hG hA hP hD hS rfl (MWc_0 cI cL cZ hm am S1) rfl) rfl rfl hl.1 rfl (lv_room (Nat.le_of_ble_eq_true rfl)) dM_roll_167 ⟨Nat.le_of_ble_eq_true rfl, Nat.le_of_ble_eq_true rfl⟩) (fun r6 S5 H locs hw hP hD hS => ?_)
      have hP : va_P D vwCl (MW cI cL cZ hm am S5) H := hP
      have hD : va_D A (MW cI cL cZ hm am S5) := hD
      refine lv_istore (lv' := [(9, .int r6), (5, .int u5), (6, .long u6), (8, .int u8), (0, .ref hm), (1, .int p0), (2, .int p1), (3, .int p2)]) hx hb dM_roll_170 hl (by decide) rfl (fun ls hl => ?_)
      refine lv_aload_n hx hb dM_roll_172 rfl (lv_at hl 4 rfl) ?_
      refine va_get (ci := 2) (v := .ref (am 8)) (C := RM9) (T := TM9) (N := 24) hx hb hts iM9 hown hK hP 0 (MWc_0 cI cL cZ hm am S5) rfl 10 (by decide) (hto (.fieldLink RM9 35 "PieceTraceModel" "over" "[I") (by decide +kernel)) (fun _ h9 => h9) rfl dM_roll_173 ?_
      refine lv_iload hx hb dM_roll_176 (lv_at hl 0 rfl) ?_
      refine lv_iload_n hx hb dM_roll_178 rfl (lv_at hl 6 rfl) ?_
      obtain ⟨hi7, hw⟩ := hw
      refine g_iast (wf := MW cI cL cZ hm am) (S' := muOv S5 r6 p1) hx hb hK hP hD hS 9 0 (MWc_9 cI cL cZ hm am S5) rfl rfl hi7 dM_roll_179 (fun S8 eS8 H locs hP hD hS => ?_)
      have hw := hw S8 eS8
      refine lv_aload_n hx hb dM_roll_180 rfl (lv_at hl 4 rfl) ?_
      refine va_get (ci := 2) (v := .ref (am 9)) (C := RM9) (T := TM9) (N := 24) hx hb hts iM9 hown hK hP 0 (MWc_0 cI cL cZ hm am S8) rfl 11 (by decide) (hto (.fieldLink RM9 38 "PieceTraceModel" "under" "[I") (by decide +kernel)) (fun _ h9 => h9) rfl dM_roll_181 ?_
      refine lv_iload hx hb dM_roll_184 (lv_at hl 0 rfl) ?_
      refine lv_iload_n hx hb dM_roll_186 rfl (lv_at hl 7 rfl) ?_
      obtain ⟨hi9, hw⟩ := hw
      refine g_iast (wf := MW cI cL cZ hm am) (S' := muUn S8 r6 p2) hx hb hK hP hD hS 10 0 (MWc_10 cI cL cZ hm am S8) rfl rfl hi9 dM_roll_187 (fun S10 eS10 H locs hP hD hS => ?_)
      have hw := hw S10 eS10
      refine lv_aload_n hx hb dM_roll_188 rfl (lv_at hl 4 rfl) ?_
      refine va_get (ci := 2) (v := .ref (am 10)) (C := RM9) (T := TM9) (N := 24) hx hb hts iM9 hown hK hP 0 (MWc_0 cI cL cZ hm am S10) rfl 12 (by decide) (hto (.fieldLink RM9 41 "PieceTraceModel" "rolls" "[I") (by decide +kernel)) (fun _ h9 => h9) rfl dM_roll_189 ?_
      refine lv_iload hx hb dM_roll_192 (lv_at hl 0 rfl) ?_
      refine lv_dup2_11 hx hb dM_roll_194 rfl rfl ?_
      obtain ⟨hi11, hw⟩ := hw
      refine va_iald (f := (mRo S10)) hx hb hK hP 11 0 (MWc_11 cI cL cZ hm am S10) rfl hi11 dM_roll_195 ?_
      refine lv_iconst (v := 1) hx hb dM_roll_196 (by decide) ?_
      refine lv_iadd hx hb dM_roll_197 ?_
      obtain ⟨hi12, hw⟩ := hw
      refine g_iast (wf := MW cI cL cZ hm am) (S' := muRo S10 r6 ((mRo S10 r6.toNatClampNeg) + 1)) hx hb hK hP hD hS 11 0 (MWc_11 cI cL cZ hm am S10) rfl rfl hi12 dM_roll_198 (fun S13 eS13 H locs hP hD hS => ?_)
      have hw := hw S13 eS13
      refine lv_iload hx hb dM_roll_199 (lv_at hl 0 rfl) ?_
      exact gr_i hx hb hr hlocks hK hP hD hS hw (Nat.le_of_ble_eq_true rfl) (Nat.le_of_ble_eq_true rfl) dM_roll_201
    · have hw := hw.2 c3
      refine lv_iconst (v := 0) hx hb dM_roll_153 (by decide) ?_
      exact gr_i hx hb hr hlocks hK hP hD hS hw (Nat.le_of_ble_eq_true rfl) (Nat.le_of_ble_eq_true rfl) dM_roll_154
  have hJ125 : ∀ (S : MSt) (u4 : Int32) (u5 : Int32) (u6 : Int64) (t0 : Int32), (u4 = 0 ∨ u4 = 1) → (u5 = 0 ∨ u5 = 1) → (t0 = 0 ∨ t0 = 1) → ∀ (H : Heap) (locs : List Loc) (ls : Array Slot), wpJ_M_roll_125 post p0 p1 p2 S u4 u5 u6 t0 → va_P D vwCl (MW cI cL cZ hm am S) H → va_D A (MW cI cL cZ hm am S) → va_S A s.heap H locs → lv_has ls 10 [(4, .int u4), (5, .int u5), (6, .long u6), (0, .ref hm), (1, .int p0), (2, .int p1), (3, .int p2)] → W p l e (headSpec wsM_roll { frames := 3, cells := 0, slots := 0, locals := 64 }).room s m ([.ref hm, .int p0, .int p1, .int p2] : List Value).toArray below meth c H locs 0 0 (MQ below (gQi D [(cI, .int), (cL, .long), (cZ, .boolean)] (MW cI cL cZ hm am) post A) ([.ref hm, .int p0, .int p1, .int p2] : List Value).toArray s 0 0 A) (F0 m 125 ls [.int t0]) := by
    intro S u4 u5 u6 t0 hbu4 hbu5 hbt0 H locs ls hw hP hD hS hl
    dsimp only [wpJ_M_roll_125] at hw
    refine lv_istore (lv' := [(8, .int t0), (4, .int u4), (5, .int u5), (6, .long u6), (0, .ref hm), (1, .int p0), (2, .int p1), (3, .int p2)]) hx hb dM_roll_125 hl (by decide) rfl (fun ls hl => ?_)
    refine lv_aload_n hx hb dM_roll_127 rfl (lv_at hl 4 rfl) ?_
    refine lv_iload hx hb dM_roll_128 (lv_at hl 1 rfl) ?_
    refine lv_aload_n hx hb dM_roll_130 rfl (lv_at hl 4 rfl) ?_
    refine lv_iload_n hx hb dM_roll_131 rfl (lv_at hl 5 rfl) ?_
    refine gk_z (wr := []) (wc := MW cI cL cZ hm am S) (wfc := MW cI cL cZ hm am) hP hD hS hA (va_runV (As := [.int p0]) (rest := [.int u4, .ref hm]) C (c_M_isAtHand l hl9 D cI cL cZ hm am _ p0 S hw H.size) (cwV 1 hts (gGV (by decide +kernel) kM_isAtHand) rfl rfl rfl (by decide +kernel) ⟨Nat.le_of_ble_eq_true rfl, Nat.le_of_ble_eq_true rfl⟩) (g_preV (wr := []) (wc := MW cI cL cZ hm am S) (ci := 2) hK hG hA hP hD hS rfl (MWc_0 cI cL cZ hm am S) rfl) rfl rfl hl.1 rfl (lv_room (Nat.le_of_ble_eq_true rfl)) dM_roll_132 ⟨Nat.le_of_ble_eq_true rfl, Nat.le_of_ble_eq_true rfl⟩) (fun r15 S14 hbr15 H locs hw hP hD hS => ?_)
    have hP : va_P D vwCl (MW cI cL cZ hm am S14) H := hP
    have hD : va_D A (MW cI cL cZ hm am S14) := hD
    refine lv_if_ne (tgt := 142) hx hb dM_roll_135 (by decide) (fun c16 => ?_) (fun c16 => ?_)
    · have hw := hw.2 c16
      refine lv_iconst (v := 0) hx hb dM_roll_142 (by decide) ?_
      exact hJ143 S14 u5 u6 t0 0 u4 hbu5 hbt0 (Or.inl rfl) hbu4 H locs ls hw hP hD hS (lv_sub hl [2, 3, 0, 4, 5, 6, 7] rfl)
    · have hw := hw.1 c16
      refine lv_iconst (v := 1) hx hb dM_roll_138 (by decide) ?_
      refine lv_goto (tgt := 143) hx hb dM_roll_139 (by decide) ?_
      exact hJ143 S14 u5 u6 t0 1 u4 hbu5 hbt0 (Or.inr rfl) hbu4 H locs ls hw hP hD hS (lv_sub hl [2, 3, 0, 4, 5, 6, 7] rfl)
  have hJ120 : ∀ (S : MSt) (u4 : Int32) (u5 : Int32) (u6 : Int64), (u4 = 0 ∨ u4 = 1) → (u5 = 0 ∨ u5 = 1) → ∀ (H : Heap) (locs : List Loc) (ls : Array Slot), wpJ_M_roll_120 post p0 p1 p2 S u4 u5 u6 → va_P D vwCl (MW cI cL cZ hm am S) H → va_D A (MW cI cL cZ hm am S) → va_S A s.heap H locs → lv_has ls 10 [(4, .int u4), (5, .int u5), (6, .long u6), (0, .ref hm), (1, .int p0), (2, .int p1), (3, .int p2)] → W p l e (headSpec wsM_roll { frames := 3, cells := 0, slots := 0, locals := 64 }).room s m ([.ref hm, .int p0, .int p1, .int p2] : List Value).toArray below meth c H locs 0 0 (MQ below (gQi D [(cI, .int), (cL, .long), (cZ, .boolean)] (MW cI cL cZ hm am) post A) ([.ref hm, .int p0, .int p1, .int p2] : List Value).toArray s 0 0 A) (F0 m 120 ls []) := by
    intro S u4 u5 u6 hbu4 hbu5 H locs ls hw hP hD hS hl
    dsimp only [wpJ_M_roll_120] at hw
    refine lv_iconst (v := 1) hx hb dM_roll_120 (by decide) ?_
    refine lv_goto (tgt := 125) hx hb dM_roll_121 (by decide) ?_
    exact hJ125 S u4 u5 u6 1 hbu4 hbu5 (Or.inr rfl) H locs ls hw hP hD hS (lv_sub hl [0, 1, 2, 3, 4, 5, 6] rfl)
  have hJ104 : ∀ (S : MSt) (u4 : Int32) (u5 : Int32) (u6 : Int64), (u4 = 0 ∨ u4 = 1) → (u5 = 0 ∨ u5 = 1) → ∀ (H : Heap) (locs : List Loc) (ls : Array Slot), wpJ_M_roll_104 post p0 p1 p2 S u4 u5 u6 → va_P D vwCl (MW cI cL cZ hm am S) H → va_D A (MW cI cL cZ hm am S) → va_S A s.heap H locs → lv_has ls 10 [(4, .int u4), (5, .int u5), (6, .long u6), (0, .ref hm), (1, .int p0), (2, .int p1), (3, .int p2)] → W p l e (headSpec wsM_roll { frames := 3, cells := 0, slots := 0, locals := 64 }).room s m ([.ref hm, .int p0, .int p1, .int p2] : List Value).toArray below meth c H locs 0 0 (MQ below (gQi D [(cI, .int), (cL, .long), (cZ, .boolean)] (MW cI cL cZ hm am) post A) ([.ref hm, .int p0, .int p1, .int p2] : List Value).toArray s 0 0 A) (F0 m 104 ls []) := by
    intro S u4 u5 u6 hbu4 hbu5 H locs ls hw hP hD hS hl
    dsimp only [wpJ_M_roll_104] at hw
    refine lv_lload hx hb dM_roll_104 (lv_at hl 2 rfl) ?_
    refine lv_lconst (v := 1) hx hb dM_roll_106 (by decide) ?_
    refine W.lcmp hx hb dM_roll_107 ?_
    refine lv_if_lt (tgt := 120) hx hb dM_roll_108 (by decide) (fun c17 => ?_) (fun c17 => ?_)
    · have c17 : u6 < 1 := (lg_cmp_lt _ _).mp c17
      have hw := hw.1 c17
      exact hJ120 S u4 u5 u6 hbu4 hbu5  H locs ls hw hP hD hS (lv_sub hl [0, 1, 2, 3, 4, 5, 6] rfl)
    · have c17 : ¬ u6 < 1 := fun h9 => c17 ((lg_cmp_lt _ _).mpr h9)
      have hw := hw.2 c17
      refine lv_lload hx hb dM_roll_111 (lv_at hl 2 rfl) ?_
      refine lv_ldc2 (v := 1000000000) hx hb hown (hto (.constantLong RM9 92 1000000000) (by decide +kernel)) dM_roll_113 ?_
      refine W.lcmp hx hb dM_roll_116 ?_
      refine lv_if_le (tgt := 124) hx hb dM_roll_117 (by decide) (fun c18 => ?_) (fun c18 => ?_)
      · have c18 : u6 ≤ 1000000000 := (lg_cmp_le _ _).mp c18
        have hw := hw.1 c18
        refine lv_iconst (v := 0) hx hb dM_roll_124 (by decide) ?_
        exact hJ125 S u4 u5 u6 0 hbu4 hbu5 (Or.inl rfl) H locs ls hw hP hD hS (lv_sub hl [0, 1, 2, 3, 4, 5, 6] rfl)
      · have c18 : ¬ u6 ≤ 1000000000 := fun h9 => c18 ((lg_cmp_le _ _).mpr h9)
        have hw := hw.2 c18
        exact hJ120 S u4 u5 u6 hbu4 hbu5  H locs ls hw hP hD hS (lv_sub hl [0, 1, 2, 3, 4, 5, 6] rfl)
  have hJ99 : ∀ (S : MSt) (u4 : Int32) (u5 : Int32) (u6 : Int64) (t0 : Int32), (u4 = 0 ∨ u4 = 1) → (u5 = 0 ∨ u5 = 1) → ∀ (H : Heap) (locs : List Loc) (ls : Array Slot), wpJ_M_roll_99 post p0 p1 p2 S u4 u5 u6 t0 → va_P D vwCl (MW cI cL cZ hm am S) H → va_D A (MW cI cL cZ hm am S) → va_S A s.heap H locs → lv_has ls 10 [(4, .int u4), (5, .int u5), (6, .long u6), (0, .ref hm), (1, .int p0), (2, .int p1), (3, .int p2)] → W p l e (headSpec wsM_roll { frames := 3, cells := 0, slots := 0, locals := 64 }).room s m ([.ref hm, .int p0, .int p1, .int p2] : List Value).toArray below meth c H locs 0 0 (MQ below (gQi D [(cI, .int), (cL, .long), (cZ, .boolean)] (MW cI cL cZ hm am) post A) ([.ref hm, .int p0, .int p1, .int p2] : List Value).toArray s 0 0 A) (F0 m 99 ls [.int t0, .ref (am 10)]) := by
    intro S u4 u5 u6 t0 hbu4 hbu5 H locs ls hw hP hD hS hl
    dsimp only [wpJ_M_roll_99] at hw
    obtain ⟨hi19, hw⟩ := hw
    refine va_iald (f := (mRo S)) hx hb hK hP 11 0 (MWc_11 cI cL cZ hm am S) rfl hi19 dM_roll_99 ?_
    refine lv_iconst (v := 3) hx hb dM_roll_100 (by decide) ?_
    refine lv_icmp_eq (tgt := 120) hx hb dM_roll_101 (by decide) (fun c20 => ?_) (fun c20 => ?_)
    · have hw := hw.1 c20
      exact hJ120 S u4 u5 u6 hbu4 hbu5  H locs ls hw hP hD hS (lv_sub hl [0, 1, 2, 3, 4, 5, 6] rfl)
    · have hw := hw.2 c20
      exact hJ104 S u4 u5 u6 hbu4 hbu5  H locs ls hw hP hD hS (lv_sub hl [0, 1, 2, 3, 4, 5, 6] rfl)
  have hJ69 : ∀ (S : MSt) (u4 : Int32) (u5 : Int32) (t0 : Int64), (u4 = 0 ∨ u4 = 1) → (u5 = 0 ∨ u5 = 1) → ∀ (H : Heap) (locs : List Loc) (ls : Array Slot), wpJ_M_roll_69 post p0 p1 p2 S u4 u5 t0 → va_P D vwCl (MW cI cL cZ hm am S) H → va_D A (MW cI cL cZ hm am S) → va_S A s.heap H locs → lv_has ls 10 [(4, .int u4), (5, .int u5), (0, .ref hm), (1, .int p0), (2, .int p1), (3, .int p2)] → W p l e (headSpec wsM_roll { frames := 3, cells := 0, slots := 0, locals := 64 }).room s m ([.ref hm, .int p0, .int p1, .int p2] : List Value).toArray below meth c H locs 0 0 (MQ below (gQi D [(cI, .int), (cL, .long), (cZ, .boolean)] (MW cI cL cZ hm am) post A) ([.ref hm, .int p0, .int p1, .int p2] : List Value).toArray s 0 0 A) (F0 m 69 ls [.long t0]) := by
    intro S u4 u5 t0 hbu4 hbu5 H locs ls hw hP hD hS hl
    dsimp only [wpJ_M_roll_69] at hw
    refine lv_lstore (lv' := [(6, .long t0), (4, .int u4), (5, .int u5), (0, .ref hm), (1, .int p0), (2, .int p1), (3, .int p2)]) hx hb dM_roll_69 hl (by decide) rfl (fun ls hl => ?_)
    refine lv_aload_n hx hb dM_roll_71 rfl (lv_at hl 3 rfl) ?_
    refine va_get (ci := 2) (v := .int (mpc S)) (C := RM9) (T := TM9) (N := 24) hx hb hts iM9 hown hK hP 0 (MWc_0 cI cL cZ hm am S) rfl 1 (by decide) (hto (.fieldLink RM9 64 "PieceTraceModel" "pieces" "I") (by decide +kernel)) (fun _ h9 => h9) rfl dM_roll_72 ?_
    refine lv_bipush (v := 40) hx hb dM_roll_75 (by decide) ?_
    refine lv_icmp_eq (tgt := 120) hx hb dM_roll_77 (by decide) (fun c21 => ?_) (fun c21 => ?_)
    · have hw := hw.1 c21
      exact hJ120 S u4 u5 t0 hbu4 hbu5  H locs ls hw hP hD hS (lv_sub hl [1, 2, 0, 3, 4, 5, 6] rfl)
    · have hw := hw.2 c21
      refine lv_iload hx hb dM_roll_80 (lv_at hl 1 rfl) ?_
      refine lv_if_ne (tgt := 104) hx hb dM_roll_82 (by decide) (fun c22 => ?_) (fun c22 => ?_)
      · have hw := hw.2 c22
        exact hJ104 S u4 u5 t0 hbu4 hbu5  H locs ls hw hP hD hS (lv_sub hl [1, 2, 0, 3, 4, 5, 6] rfl)
      · have hw := hw.1 c22
        refine lv_aload_n hx hb dM_roll_85 rfl (lv_at hl 3 rfl) ?_
        refine va_get (ci := 2) (v := .ref (am 10)) (C := RM9) (T := TM9) (N := 24) hx hb hts iM9 hown hK hP 0 (MWc_0 cI cL cZ hm am S) rfl 12 (by decide) (hto (.fieldLink RM9 41 "PieceTraceModel" "rolls" "[I") (by decide +kernel)) (fun _ h9 => h9) rfl dM_roll_86 ?_
        refine lv_iload hx hb dM_roll_89 (lv_at hl 1 rfl) ?_
        refine lv_if_eq (tgt := 98) hx hb dM_roll_91 (by decide) (fun _ => ?_) (fun c9 => absurd c22 c9)
        refine lv_iload_n hx hb dM_roll_98 rfl (lv_at hl 4 rfl) ?_
        exact hJ99 S u4 u5 t0 p0 hbu4 hbu5  H locs ls hw hP hD hS (lv_sub hl [1, 2, 0, 3, 4, 5, 6] rfl)
  have hJ52 : ∀ (S : MSt) (u4 : Int32) (u5 : Int32), (u4 = 0 ∨ u4 = 1) → (u5 = 0 ∨ u5 = 1) → ∀ (H : Heap) (locs : List Loc) (ls : Array Slot), wpJ_M_roll_52 post p0 p1 p2 S u4 u5 → va_P D vwCl (MW cI cL cZ hm am S) H → va_D A (MW cI cL cZ hm am S) → va_S A s.heap H locs → lv_has ls 10 [(4, .int u4), (5, .int u5), (0, .ref hm), (1, .int p0), (2, .int p1), (3, .int p2)] → W p l e (headSpec wsM_roll { frames := 3, cells := 0, slots := 0, locals := 64 }).room s m ([.ref hm, .int p0, .int p1, .int p2] : List Value).toArray below meth c H locs 0 0 (MQ below (gQi D [(cI, .int), (cL, .long), (cZ, .boolean)] (MW cI cL cZ hm am) post A) ([.ref hm, .int p0, .int p1, .int p2] : List Value).toArray s 0 0 A) (F0 m 52 ls []) := by
    intro S u4 u5 hbu4 hbu5 H locs ls hw hP hD hS hl
    dsimp only [wpJ_M_roll_52] at hw
    refine lv_lconst (v := 1) hx hb dM_roll_52 (by decide) ?_
    refine lv_goto (tgt := 69) hx hb dM_roll_53 (by decide) ?_
    exact hJ69 S u4 u5 1 hbu4 hbu5  H locs ls hw hP hD hS (lv_sub hl [0, 1, 2, 3, 4, 5] rfl)
  have hJ40 : ∀ (S : MSt) (u4 : Int32) (t0 : Int32), (u4 = 0 ∨ u4 = 1) → (t0 = 0 ∨ t0 = 1) → ∀ (H : Heap) (locs : List Loc) (ls : Array Slot), wpJ_M_roll_40 post p0 p1 p2 S u4 t0 → va_P D vwCl (MW cI cL cZ hm am S) H → va_D A (MW cI cL cZ hm am S) → va_S A s.heap H locs → lv_has ls 10 [(4, .int u4), (0, .ref hm), (1, .int p0), (2, .int p1), (3, .int p2)] → W p l e (headSpec wsM_roll { frames := 3, cells := 0, slots := 0, locals := 64 }).room s m ([.ref hm, .int p0, .int p1, .int p2] : List Value).toArray below meth c H locs 0 0 (MQ below (gQi D [(cI, .int), (cL, .long), (cZ, .boolean)] (MW cI cL cZ hm am) post A) ([.ref hm, .int p0, .int p1, .int p2] : List Value).toArray s 0 0 A) (F0 m 40 ls [.int t0]) := by
    intro S u4 t0 hbu4 hbt0 H locs ls hw hP hD hS hl
    dsimp only [wpJ_M_roll_40] at hw
    refine lv_istore (lv' := [(5, .int t0), (4, .int u4), (0, .ref hm), (1, .int p0), (2, .int p1), (3, .int p2)]) hx hb dM_roll_40 hl (by decide) rfl (fun ls hl => ?_)
    refine lv_iload hx hb dM_roll_42 (lv_at hl 1 rfl) ?_
    refine lv_if_ne (tgt := 52) hx hb dM_roll_44 (by decide) (fun c23 => ?_) (fun c23 => ?_)
    · have hw := hw.2 c23
      exact hJ52 S u4 t0 hbu4 hbt0  H locs ls hw hP hD hS (lv_sub hl [1, 0, 2, 3, 4, 5] rfl)
    · have hw := hw.1 c23
      refine lv_iload hx hb dM_roll_47 (lv_at hl 0 rfl) ?_
      refine lv_if_eq (tgt := 56) hx hb dM_roll_49 (by decide) (fun c24 => ?_) (fun c24 => ?_)
      · have hw := hw.1 c24
        refine lv_aload_n hx hb dM_roll_56 rfl (lv_at hl 2 rfl) ?_
        refine va_get (ci := 2) (v := .ref (am 2)) (C := RM9) (T := TM9) (N := 24) hx hb hts iM9 hown hK hP 0 (MWc_0 cI cL cZ hm am S) rfl 4 (by decide) (hto (.fieldLink RM9 16 "PieceTraceModel" "length" "[I") (by decide +kernel)) (fun _ h9 => h9) rfl dM_roll_57 ?_
        refine lv_iload_n hx hb dM_roll_60 rfl (lv_at hl 3 rfl) ?_
        obtain ⟨hi25, hw⟩ := hw
        refine va_iald (f := (mLe S)) hx hb hK hP 3 0 (MWc_3 cI cL cZ hm am S) rfl hi25 dM_roll_61 ?_
        refine lv_i2l (v := (mLe S p0.toNatClampNeg).toInt64) hx hb dM_roll_62 rfl ?_
        refine lv_iload_n hx hb dM_roll_63 rfl (lv_at hl 4 rfl) ?_
        refine lv_i2l (v := p1.toInt64) hx hb dM_roll_64 rfl ?_
        refine lv_lmul hx hb dM_roll_65 ?_
        refine lv_iload_n hx hb dM_roll_66 rfl (lv_at hl 5 rfl) ?_
        refine lv_i2l (v := p2.toInt64) hx hb dM_roll_67 rfl ?_
        obtain ⟨hz26, hw⟩ := hw
        refine lv_ldiv hx hb dM_roll_68 hz26 ?_
        exact hJ69 S u4 t0 (((mLe S p0.toNatClampNeg).toInt64 * p1.toInt64) / p2.toInt64) hbu4 hbt0  H locs ls hw hP hD hS (lv_sub hl [1, 0, 2, 3, 4, 5] rfl)
      · have hw := hw.2 c24
        exact hJ52 S u4 t0 hbu4 hbt0  H locs ls hw hP hD hS (lv_sub hl [1, 0, 2, 3, 4, 5] rfl)
  have hJ35 : ∀ (S : MSt) (u4 : Int32), (u4 = 0 ∨ u4 = 1) → ∀ (H : Heap) (locs : List Loc) (ls : Array Slot), wpJ_M_roll_35 post p0 p1 p2 S u4 → va_P D vwCl (MW cI cL cZ hm am S) H → va_D A (MW cI cL cZ hm am S) → va_S A s.heap H locs → lv_has ls 10 [(4, .int u4), (0, .ref hm), (1, .int p0), (2, .int p1), (3, .int p2)] → W p l e (headSpec wsM_roll { frames := 3, cells := 0, slots := 0, locals := 64 }).room s m ([.ref hm, .int p0, .int p1, .int p2] : List Value).toArray below meth c H locs 0 0 (MQ below (gQi D [(cI, .int), (cL, .long), (cZ, .boolean)] (MW cI cL cZ hm am) post A) ([.ref hm, .int p0, .int p1, .int p2] : List Value).toArray s 0 0 A) (F0 m 35 ls []) := by
    intro S u4 hbu4 H locs ls hw hP hD hS hl
    dsimp only [wpJ_M_roll_35] at hw
    refine lv_iconst (v := 1) hx hb dM_roll_35 (by decide) ?_
    refine lv_goto (tgt := 40) hx hb dM_roll_36 (by decide) ?_
    exact hJ40 S u4 1 hbu4 (Or.inr rfl) H locs ls hw hP hD hS (lv_sub hl [0, 1, 2, 3, 4] rfl)
  have hJ13 : ∀ (S : MSt) (t0 : Int32), (t0 = 0 ∨ t0 = 1) → ∀ (H : Heap) (locs : List Loc) (ls : Array Slot), wpJ_M_roll_13 post p0 p1 p2 S t0 → va_P D vwCl (MW cI cL cZ hm am S) H → va_D A (MW cI cL cZ hm am S) → va_S A s.heap H locs → lv_has ls 10 [(0, .ref hm), (1, .int p0), (2, .int p1), (3, .int p2)] → W p l e (headSpec wsM_roll { frames := 3, cells := 0, slots := 0, locals := 64 }).room s m ([.ref hm, .int p0, .int p1, .int p2] : List Value).toArray below meth c H locs 0 0 (MQ below (gQi D [(cI, .int), (cL, .long), (cZ, .boolean)] (MW cI cL cZ hm am) post A) ([.ref hm, .int p0, .int p1, .int p2] : List Value).toArray s 0 0 A) (F0 m 13 ls [.int t0]) := by
    intro S t0 hbt0 H locs ls hw hP hD hS hl
    dsimp only [wpJ_M_roll_13] at hw
    refine lv_istore (lv' := [(4, .int t0), (0, .ref hm), (1, .int p0), (2, .int p1), (3, .int p2)]) hx hb dM_roll_13 hl (by decide) rfl (fun ls hl => ?_)
    refine lv_iload_n hx hb dM_roll_15 rfl (lv_at hl 3 rfl) ?_
    refine lv_iconst (v := 1) hx hb dM_roll_16 (by decide) ?_
    refine lv_bipush (v := 20) hx hb dM_roll_17 (by decide) ?_
    refine gk_z (wr := []) (wc := MW cI cL cZ hm am S) (wfc := MW cI cL cZ hm am) hP hD hS hA (va_runS (As := [.int p1, .int 1, .int 20]) (rest := []) C (c_M_in l hl9 D cI cL cZ hm am _ p1 1 20 S hw H.size) (va_cwS 3 hts (gGS (by decide +kernel) kM_in) rfl rfl rfl (by decide +kernel) ⟨Nat.le_of_ble_eq_true rfl, Nat.le_of_ble_eq_true rfl⟩) (g_preS (wr := []) (wc := MW cI cL cZ hm am S) hK hG hA hP hD hS) rfl rfl hl.1 rfl (lv_room (Nat.le_of_ble_eq_true rfl)) dM_roll_19 ⟨Nat.le_of_ble_eq_true rfl, Nat.le_of_ble_eq_true rfl⟩) (fun r28 S27 hbr28 H locs hw hP hD hS => ?_)
    have hP : va_P D vwCl (MW cI cL cZ hm am S27) H := hP
    have hD : va_D A (MW cI cL cZ hm am S27) := hD
    refine lv_if_eq (tgt := 35) hx hb dM_roll_22 (by decide) (fun c29 => ?_) (fun c29 => ?_)
    · have hw := hw.1 c29
      exact hJ35 S27 t0 hbt0  H locs ls hw hP hD hS (lv_sub hl [0, 1, 2, 3, 4] rfl)
    · have hw := hw.2 c29
      refine lv_iload_n hx hb dM_roll_25 rfl (lv_at hl 4 rfl) ?_
      refine lv_iconst (v := 1) hx hb dM_roll_26 (by decide) ?_
      refine lv_bipush (v := 20) hx hb dM_roll_27 (by decide) ?_
      refine gk_z (wr := []) (wc := MW cI cL cZ hm am S27) (wfc := MW cI cL cZ hm am) hP hD hS hA (va_runS (As := [.int p2, .int 1, .int 20]) (rest := []) C (c_M_in l hl9 D cI cL cZ hm am _ p2 1 20 S27 hw H.size) (va_cwS 3 hts (gGS (by decide +kernel) kM_in) rfl rfl rfl (by decide +kernel) ⟨Nat.le_of_ble_eq_true rfl, Nat.le_of_ble_eq_true rfl⟩) (g_preS (wr := []) (wc := MW cI cL cZ hm am S27) hK hG hA hP hD hS) rfl rfl hl.1 rfl (lv_room (Nat.le_of_ble_eq_true rfl)) dM_roll_29 ⟨Nat.le_of_ble_eq_true rfl, Nat.le_of_ble_eq_true rfl⟩) (fun r31 S30 hbr31 H locs hw hP hD hS => ?_)
      have hP : va_P D vwCl (MW cI cL cZ hm am S30) H := hP
      have hD : va_D A (MW cI cL cZ hm am S30) := hD
      refine lv_if_ne (tgt := 39) hx hb dM_roll_32 (by decide) (fun c32 => ?_) (fun c32 => ?_)
      · have hw := hw.2 c32
        refine lv_iconst (v := 0) hx hb dM_roll_39 (by decide) ?_
        exact hJ40 S30 t0 0 hbt0 (Or.inl rfl) H locs ls hw hP hD hS (lv_sub hl [0, 1, 2, 3, 4] rfl)
      · have hw := hw.1 c32
        exact hJ35 S30 t0 hbt0  H locs ls hw hP hD hS (lv_sub hl [0, 1, 2, 3, 4] rfl)
  dsimp only [wp_M_roll] at hw
  refine lv_aload_n hx hb dM_roll_0 rfl (lv_at hl 0 rfl) ?_
  refine lv_iload_n hx hb dM_roll_1 rfl (lv_at hl 1 rfl) ?_
  refine gk_z (wr := []) (wc := MW cI cL cZ hm am S) (wfc := MW cI cL cZ hm am) hP hD hS hA (va_runV (As := [.int p0]) (rest := []) C (c_M_isPiece l hl9 D cI cL cZ hm am _ p0 S hw H.size) (cwV 1 hts (gGV (by decide +kernel) kM_isPiece) rfl rfl rfl (by decide +kernel) ⟨Nat.le_of_ble_eq_true rfl, Nat.le_of_ble_eq_true rfl⟩) (g_preV (wr := []) (wc := MW cI cL cZ hm am S) (ci := 2) hK hG hA hP hD hS rfl (MWc_0 cI cL cZ hm am S) rfl) rfl rfl hl.1 rfl (lv_room (Nat.le_of_ble_eq_true rfl)) dM_roll_2 ⟨Nat.le_of_ble_eq_true rfl, Nat.le_of_ble_eq_true rfl⟩) (fun r34 S33 hbr34 H locs hw hP hD hS => ?_)
  have hP : va_P D vwCl (MW cI cL cZ hm am S33) H := hP
  have hD : va_D A (MW cI cL cZ hm am S33) := hD
  refine lv_if_ne (tgt := 12) hx hb dM_roll_5 (by decide) (fun c35 => ?_) (fun c35 => ?_)
  · have hw := hw.2 c35
    refine lv_iconst (v := 0) hx hb dM_roll_12 (by decide) ?_
    exact hJ13 S33 0  (Or.inl rfl) H locs ls hw hP hD hS (lv_sub hl [0, 1, 2, 3] rfl)
  · have hw := hw.1 c35
    refine lv_iconst (v := 1) hx hb dM_roll_8 (by decide) ?_
    refine lv_goto (tgt := 13) hx hb dM_roll_9 (by decide) ?_
    exact hJ13 S33 1  (Or.inr rfl) H locs ls hw hP hD hS (lv_sub hl [0, 1, 2, 3] rfl)
def wpJ_M_slit_99 (post : Int32 → MSt → Prop) (p0 : Int32) (p1 : Int32) (K : MSt → Int32 → Prop) (S : MSt) (u3 : Int32) (t0 : Int32) (t1 : Int32) (t2 : Int32) (t3 : Int32) : Prop := (vp_in p0 40 ∧ (wp_M_add (fun r3 S2 => (∀ v3_4 : Int32, v3_4 = u3 + 1 → (K S2 v3_4))) t3 t2 (t1 + t0) (mLe S p0.toNatClampNeg) S))
def wpB_M_slit_67 (post : Int32 → MSt → Prop) (p0 : Int32) (p1 : Int32) (K : MSt → Int32 → Prop) (S : MSt) (u3 : Int32) : Prop := ((p1 ≤ u3 → (post ((mpc S) - p1) S)) ∧ (¬ p1 ≤ u3 → (vp_in p0 40 ∧ (¬ p1 = 0 ∧ ((u3 = 0 → (vp_in p0 40 ∧ (¬ p1 = 0 ∧ (wpJ_M_slit_99 post p0 p1 K S u3 ((mWe S p0.toNatClampNeg) - (mWe S p0.toNatClampNeg) / p1 * p1) ((mWe S p0.toNatClampNeg) / p1) p0 5)))) ∧ (¬ u3 = 0 → (wpJ_M_slit_99 post p0 p1 K S u3 0 ((mWe S p0.toNatClampNeg) / p1) p0 5)))))))
def wpL_M_slit_67 (post : Int32 → MSt → Prop) (p0 : Int32) (p1 : Int32) : Nat → MSt → Int32 → Prop
  | 0 => fun _ _ => False
  | n + 1 => fun S u3 => wpB_M_slit_67 post p0 p1 (wpL_M_slit_67 post p0 p1 n) S u3
def wpJ_M_slit_57 (post : Int32 → MSt → Prop) (p0 : Int32) (p1 : Int32) (S : MSt) (t0 : Int32) (t1 : Int32) (t2 : Int32) (t3 : Int32) : Prop := (wp_M_throwing (fun r12 S11 => ((r12 = 0 → (∃ n : Nat, wpL_M_slit_67 post p0 p1 n S11 0)) ∧ (¬ r12 = 0 → (post 0 S11)))) t3 t2 t1 t0 S)
def wpJ_M_slit_41 (post : Int32 → MSt → Prop) (p0 : Int32) (p1 : Int32) (S : MSt) (t0 : Int32) (t1 : Int32) (t2 : Int32) : Prop := ((((mpc S) + p1) ≤ 40 → (wpJ_M_slit_57 post p0 p1 S 0 t0 t1 t2)) ∧ (¬ ((mpc S) + p1) ≤ 40 → (wpJ_M_slit_57 post p0 p1 S 1 t0 t1 t2)))
def wpJ_M_slit_27 (post : Int32 → MSt → Prop) (p0 : Int32) (p1 : Int32) (S : MSt) (t0 : Int32) (t1 : Int32) : Prop := (wp_M_in (fun r16 S15 => ((r16 = 0 → (wpJ_M_slit_41 post p0 p1 S15 1 t0 t1)) ∧ (¬ r16 = 0 → (wpJ_M_slit_41 post p0 p1 S15 0 t0 t1)))) p1 2 4 S)
def wpJ_M_slit_14 (post : Int32 → MSt → Prop) (p0 : Int32) (p1 : Int32) (S : MSt) (t0 : Int32) : Prop := (wp_M_isAtHand (fun r19 S18 => ((r19 = 0 → (wpJ_M_slit_27 post p0 p1 S18 1 t0)) ∧ (¬ r19 = 0 → (wpJ_M_slit_27 post p0 p1 S18 0 t0)))) p0 S)
def wp_M_slit (post : Int32 → MSt → Prop) (p0 : Int32) (p1 : Int32) (S : MSt) : Prop := (wp_M_isPiece (fun r22 S21 => ((r22 = 0 → (wpJ_M_slit_14 post p0 p1 S21 1)) ∧ (¬ r22 = 0 → (wpJ_M_slit_14 post p0 p1 S21 0)))) p0 S)
set_option maxHeartbeats 4000000 in
set_option maxRecDepth 100000 in
theorem c_M_slit (l : Launch) (hl9 : l.stackTraces = false) (D : va_G) (cI cL cZ : ClassId) (hm : Nat) (am : Nat → Nat) (post : Int32 → MSt → Prop) (p0 : Int32) (p1 : Int32) (S : MSt) (hw : wp_M_slit post p0 p1 S) : gMi l yM_slit wsM_slit ({ frames := 3, cells := 0, slots := 0, locals := 64 }) D [(cI, .int), (cL, .long), (cZ, .boolean)] [.ref hm, .int p0, .int p1] (MW cI cL cZ hm am S) (MW cI cL cZ hm am) post := by
  refine g_ofMi (cc := cM_slit) (maxL := 4) (ret := (some .int)) (own := RM9) (by decide) rfl rfl (Nat.le_of_ble_eq_true rfl) ?_
  intro p e s m below meth c A H locs ls C hr hlocks hK hG hA hP hD hS hl
  obtain ⟨hx, hb, hml, hown, hts⟩ := id C
  have hts := fun w (h9 : w ∈ gW) => hts w (List.mem_cons_of_mem _ h9)
  have hto := fun w (h9 : w ∈ gWo) => hts w (gWo_in w h9)
  have hl : lv_has ls 4 [(0, .ref hm), (1, .int p0), (2, .int p1)] := hl
  have hJ67 : ∀ (S : MSt) (u3 : Int32) (H : Heap) (locs : List Loc) (ls : Array Slot), (∃ n : Nat, wpL_M_slit_67 post p0 p1 n S u3) → va_P D vwCl (MW cI cL cZ hm am S) H → va_D A (MW cI cL cZ hm am S) → va_S A s.heap H locs → lv_has ls 4 [(3, .int u3), (0, .ref hm), (1, .int p0), (2, .int p1)] → W p l e (headSpec wsM_slit { frames := 3, cells := 0, slots := 0, locals := 64 }).room s m ([.ref hm, .int p0, .int p1] : List Value).toArray below meth c H locs 0 0 (MQ below (gQi D [(cI, .int), (cL, .long), (cZ, .boolean)] (MW cI cL cZ hm am) post A) ([.ref hm, .int p0, .int p1] : List Value).toArray s 0 0 A) (F0 m 67 ls []) := by
    intro S u3 H locs ls hw
    obtain ⟨n, hw⟩ := hw
    revert S u3 H locs ls
    induction n with
    | zero => intro S u3 H locs ls hw; exact hw.elim
    | succ n ih =>
      have hJ99 : ∀ (S : MSt) (u3 : Int32) (t0 : Int32) (t1 : Int32) (t2 : Int32) (t3 : Int32), ∀ (H : Heap) (locs : List Loc) (ls : Array Slot), wpJ_M_slit_99 post p0 p1 (wpL_M_slit_67 post p0 p1 n) S u3 t0 t1 t2 t3 → va_P D vwCl (MW cI cL cZ hm am S) H → va_D A (MW cI cL cZ hm am S) → va_S A s.heap H locs → lv_has ls 4 [(3, .int u3), (0, .ref hm), (1, .int p0), (2, .int p1)] → W p l e (headSpec wsM_slit { frames := 3, cells := 0, slots := 0, locals := 64 }).room s m ([.ref hm, .int p0, .int p1] : List Value).toArray below meth c H locs 0 0 (MQ below (gQi D [(cI, .int), (cL, .long), (cZ, .boolean)] (MW cI cL cZ hm am) post A) ([.ref hm, .int p0, .int p1] : List Value).toArray s 0 0 A) (F0 m 99 ls [.int t0, .int t1, .int t2, .int t3, .ref hm]) := by
        intro S u3 t0 t1 t2 t3  H locs ls hw hP hD hS hl
        dsimp only [wpJ_M_slit_99] at hw
        refine lv_iadd hx hb dM_slit_99 ?_
        refine lv_aload_n hx hb dM_slit_100 rfl (lv_at hl 1 rfl) ?_
        refine va_get (ci := 2) (v := .ref (am 2)) (C := RM9) (T := TM9) (N := 24) hx hb hts iM9 hown hK hP 0 (MWc_0 cI cL cZ hm am S) rfl 4 (by decide) (hto (.fieldLink RM9 16 "PieceTraceModel" "length" "[I") (by decide +kernel)) (fun _ h9 => h9) rfl dM_slit_101 ?_
        refine lv_iload_n hx hb dM_slit_104 rfl (lv_at hl 2 rfl) ?_
        obtain ⟨hi1, hw⟩ := hw
        refine va_iald (f := (mLe S)) hx hb hK hP 3 0 (MWc_3 cI cL cZ hm am S) rfl hi1 dM_slit_105 ?_
        refine gk_i (wr := []) (wc := MW cI cL cZ hm am S) (wfc := MW cI cL cZ hm am) hP hD hS hA (va_runV (As := [.int t3, .int t2, .int (t1 + t0), .int (mLe S p0.toNatClampNeg)]) (rest := []) C (c_M_add l hl9 D cI cL cZ hm am _ t3 t2 (t1 + t0) (mLe S p0.toNatClampNeg) S hw H.size) (cwV 4 hts (gGV (by decide +kernel) kM_add) rfl rfl rfl (by decide +kernel) ⟨Nat.le_of_ble_eq_true rfl, Nat.le_of_ble_eq_true rfl⟩) (g_preV (wr := []) (wc := MW cI cL cZ hm am S) (ci := 2) hK hG hA hP hD hS rfl (MWc_0 cI cL cZ hm am S) rfl) rfl rfl hl.1 rfl (lv_room (Nat.le_of_ble_eq_true rfl)) dM_slit_106 ⟨Nat.le_of_ble_eq_true rfl, Nat.le_of_ble_eq_true rfl⟩) (fun r3 S2 H locs hw hP hD hS => ?_)
        have hP : va_P D vwCl (MW cI cL cZ hm am S2) H := hP
        have hD : va_D A (MW cI cL cZ hm am S2) := hD
        refine lv_pop hx hb dM_slit_109 rfl ?_
        obtain ⟨v3_4, ev3_4⟩ : ∃ y : Int32, y = u3 + 1 := ⟨_, rfl⟩
        have hw := hw v3_4 ev3_4
        refine lv_iinc (v := v3_4) (lv' := [(3, .int v3_4), (0, .ref hm), (1, .int p0), (2, .int p1)]) hx hb dM_slit_110 hl (k := 0) rfl (by rw [ev3_4]; rfl) (by decide) rfl (fun ls hl => ?_)
        refine lv_goto (tgt := 67) hx hb dM_slit_113 (by decide) ?_
        exact ih S2 v3_4 H locs ls hw hP hD hS (lv_sub hl [0, 1, 2, 3] rfl)
      intro S u3 H locs ls hw hP hD hS hl
      dsimp only [wpL_M_slit_67, wpB_M_slit_67] at hw
      refine lv_iload_n hx hb dM_slit_67 rfl (lv_at hl 0 rfl) ?_
      refine lv_iload_n hx hb dM_slit_68 rfl (lv_at hl 3 rfl) ?_
      refine lv_icmp_ge (tgt := 116) hx hb dM_slit_69 (by decide) (fun c5 => ?_) (fun c5 => ?_)
      · have hw := hw.1 c5
        refine lv_aload_n hx hb dM_slit_116 rfl (lv_at hl 1 rfl) ?_
        refine va_get (ci := 2) (v := .int (mpc S)) (C := RM9) (T := TM9) (N := 24) hx hb hts iM9 hown hK hP 0 (MWc_0 cI cL cZ hm am S) rfl 1 (by decide) (hto (.fieldLink RM9 64 "PieceTraceModel" "pieces" "I") (by decide +kernel)) (fun _ h9 => h9) rfl dM_slit_117 ?_
        refine lv_iload_n hx hb dM_slit_120 rfl (lv_at hl 3 rfl) ?_
        refine lv_isub hx hb dM_slit_121 ?_
        exact gr_i hx hb hr hlocks hK hP hD hS hw (Nat.le_of_ble_eq_true rfl) (Nat.le_of_ble_eq_true rfl) dM_slit_122
      · have hw := hw.2 c5
        refine lv_aload_n hx hb dM_slit_72 rfl (lv_at hl 1 rfl) ?_
        refine lv_iconst (v := 5) hx hb dM_slit_73 (by decide) ?_
        refine lv_iload_n hx hb dM_slit_74 rfl (lv_at hl 2 rfl) ?_
        refine lv_aload_n hx hb dM_slit_75 rfl (lv_at hl 1 rfl) ?_
        refine va_get (ci := 2) (v := .ref (am 1)) (C := RM9) (T := TM9) (N := 24) hx hb hts iM9 hown hK hP 0 (MWc_0 cI cL cZ hm am S) rfl 3 (by decide) (hto (.fieldLink RM9 13 "PieceTraceModel" "weight" "[I") (by decide +kernel)) (fun _ h9 => h9) rfl dM_slit_76 ?_
        refine lv_iload_n hx hb dM_slit_79 rfl (lv_at hl 2 rfl) ?_
        obtain ⟨hi6, hw⟩ := hw
        refine va_iald (f := (mWe S)) hx hb hK hP 2 0 (MWc_2 cI cL cZ hm am S) rfl hi6 dM_slit_80 ?_
        refine lv_iload_n hx hb dM_slit_81 rfl (lv_at hl 3 rfl) ?_
        obtain ⟨hz7, hw⟩ := hw
        refine lv_idiv hx hb dM_slit_82 hz7 ?_
        refine lv_iload_n hx hb dM_slit_83 rfl (lv_at hl 0 rfl) ?_
        refine lv_if_ne (tgt := 98) hx hb dM_slit_84 (by decide) (fun c8 => ?_) (fun c8 => ?_)
        · have hw := hw.2 c8
          refine lv_iconst (v := 0) hx hb dM_slit_98 (by decide) ?_
          exact hJ99 S u3 0 ((mWe S p0.toNatClampNeg) / p1) p0 5   H locs ls hw hP hD hS (lv_sub hl [0, 1, 2, 3] rfl)
        · have hw := hw.1 c8
          refine lv_aload_n hx hb dM_slit_87 rfl (lv_at hl 1 rfl) ?_
          refine va_get (ci := 2) (v := .ref (am 1)) (C := RM9) (T := TM9) (N := 24) hx hb hts iM9 hown hK hP 0 (MWc_0 cI cL cZ hm am S) rfl 3 (by decide) (hto (.fieldLink RM9 13 "PieceTraceModel" "weight" "[I") (by decide +kernel)) (fun _ h9 => h9) rfl dM_slit_88 ?_
          refine lv_iload_n hx hb dM_slit_91 rfl (lv_at hl 2 rfl) ?_
          obtain ⟨hi9, hw⟩ := hw
          refine va_iald (f := (mWe S)) hx hb hK hP 2 0 (MWc_2 cI cL cZ hm am S) rfl hi9 dM_slit_92 ?_
          refine lv_iload_n hx hb dM_slit_93 rfl (lv_at hl 3 rfl) ?_
          obtain ⟨hz10, hw⟩ := hw
          refine lv_irem hx hb dM_slit_94 hz10 ?_
          refine lv_goto (tgt := 99) hx hb dM_slit_95 (by decide) ?_
          exact hJ99 S u3 ((mWe S p0.toNatClampNeg) - (mWe S p0.toNatClampNeg) / p1 * p1) ((mWe S p0.toNatClampNeg) / p1) p0 5   H locs ls hw hP hD hS (lv_sub hl [0, 1, 2, 3] rfl)
  have hJ57 : ∀ (S : MSt) (t0 : Int32) (t1 : Int32) (t2 : Int32) (t3 : Int32), (t0 = 0 ∨ t0 = 1) → (t1 = 0 ∨ t1 = 1) → (t2 = 0 ∨ t2 = 1) → (t3 = 0 ∨ t3 = 1) → ∀ (H : Heap) (locs : List Loc) (ls : Array Slot), wpJ_M_slit_57 post p0 p1 S t0 t1 t2 t3 → va_P D vwCl (MW cI cL cZ hm am S) H → va_D A (MW cI cL cZ hm am S) → va_S A s.heap H locs → lv_has ls 4 [(0, .ref hm), (1, .int p0), (2, .int p1)] → W p l e (headSpec wsM_slit { frames := 3, cells := 0, slots := 0, locals := 64 }).room s m ([.ref hm, .int p0, .int p1] : List Value).toArray below meth c H locs 0 0 (MQ below (gQi D [(cI, .int), (cL, .long), (cZ, .boolean)] (MW cI cL cZ hm am) post A) ([.ref hm, .int p0, .int p1] : List Value).toArray s 0 0 A) (F0 m 57 ls [.int t0, .int t1, .int t2, .int t3, .ref hm]) := by
    intro S t0 t1 t2 t3 hbt0 hbt1 hbt2 hbt3 H locs ls hw hP hD hS hl
    dsimp only [wpJ_M_slit_57] at hw
    refine gk_z (wr := []) (wc := MW cI cL cZ hm am S) (wfc := MW cI cL cZ hm am) hP hD hS hA (va_runV (As := [.int t3, .int t2, .int t1, .int t0]) (rest := []) C (c_M_throwing l hl9 D cI cL cZ hm am _ t3 t2 t1 t0 S hw H.size) (cwV 4 hts (gGV (by decide +kernel) kM_throwing) rfl rfl rfl (by decide +kernel) ⟨Nat.le_of_ble_eq_true rfl, Nat.le_of_ble_eq_true rfl⟩) (g_preV (wr := []) (wc := MW cI cL cZ hm am S) (ci := 2) hK hG hA hP hD hS rfl (MWc_0 cI cL cZ hm am S) rfl) rfl rfl hl.1 rfl (lv_room (Nat.le_of_ble_eq_true rfl)) dM_slit_57 ⟨Nat.le_of_ble_eq_true rfl, Nat.le_of_ble_eq_true rfl⟩) (fun r12 S11 hbr12 H locs hw hP hD hS => ?_)
    have hP : va_P D vwCl (MW cI cL cZ hm am S11) H := hP
    have hD : va_D A (MW cI cL cZ hm am S11) := hD
    refine lv_if_eq (tgt := 65) hx hb dM_slit_60 (by decide) (fun c13 => ?_) (fun c13 => ?_)
    · have hw := hw.1 c13
      refine lv_iconst (v := 0) hx hb dM_slit_65 (by decide) ?_
      refine lv_istore_n (lv' := [(3, .int 0), (0, .ref hm), (1, .int p0), (2, .int p1)]) hx hb dM_slit_66 rfl hl (by decide) rfl (fun ls hl => ?_)
      exact hJ67 S11 0   H locs ls hw hP hD hS (lv_sub hl [0, 1, 2, 3] rfl)
    · have hw := hw.2 c13
      refine lv_iconst (v := 0) hx hb dM_slit_63 (by decide) ?_
      exact gr_i hx hb hr hlocks hK hP hD hS hw (Nat.le_of_ble_eq_true rfl) (Nat.le_of_ble_eq_true rfl) dM_slit_64
  have hJ41 : ∀ (S : MSt) (t0 : Int32) (t1 : Int32) (t2 : Int32), (t0 = 0 ∨ t0 = 1) → (t1 = 0 ∨ t1 = 1) → (t2 = 0 ∨ t2 = 1) → ∀ (H : Heap) (locs : List Loc) (ls : Array Slot), wpJ_M_slit_41 post p0 p1 S t0 t1 t2 → va_P D vwCl (MW cI cL cZ hm am S) H → va_D A (MW cI cL cZ hm am S) → va_S A s.heap H locs → lv_has ls 4 [(0, .ref hm), (1, .int p0), (2, .int p1)] → W p l e (headSpec wsM_slit { frames := 3, cells := 0, slots := 0, locals := 64 }).room s m ([.ref hm, .int p0, .int p1] : List Value).toArray below meth c H locs 0 0 (MQ below (gQi D [(cI, .int), (cL, .long), (cZ, .boolean)] (MW cI cL cZ hm am) post A) ([.ref hm, .int p0, .int p1] : List Value).toArray s 0 0 A) (F0 m 41 ls [.int t0, .int t1, .int t2, .ref hm]) := by
    intro S t0 t1 t2 hbt0 hbt1 hbt2 H locs ls hw hP hD hS hl
    dsimp only [wpJ_M_slit_41] at hw
    refine lv_aload_n hx hb dM_slit_41 rfl (lv_at hl 0 rfl) ?_
    refine va_get (ci := 2) (v := .int (mpc S)) (C := RM9) (T := TM9) (N := 24) hx hb hts iM9 hown hK hP 0 (MWc_0 cI cL cZ hm am S) rfl 1 (by decide) (hto (.fieldLink RM9 64 "PieceTraceModel" "pieces" "I") (by decide +kernel)) (fun _ h9 => h9) rfl dM_slit_42 ?_
    refine lv_iload_n hx hb dM_slit_45 rfl (lv_at hl 2 rfl) ?_
    refine lv_iadd hx hb dM_slit_46 ?_
    refine lv_bipush (v := 40) hx hb dM_slit_47 (by decide) ?_
    refine lv_icmp_le (tgt := 56) hx hb dM_slit_49 (by decide) (fun c14 => ?_) (fun c14 => ?_)
    · have hw := hw.1 c14
      refine lv_iconst (v := 0) hx hb dM_slit_56 (by decide) ?_
      exact hJ57 S 0 t0 t1 t2  (Or.inl rfl) hbt0 hbt1 hbt2 H locs ls hw hP hD hS (lv_sub hl [0, 1, 2] rfl)
    · have hw := hw.2 c14
      refine lv_iconst (v := 1) hx hb dM_slit_52 (by decide) ?_
      refine lv_goto (tgt := 57) hx hb dM_slit_53 (by decide) ?_
      exact hJ57 S 1 t0 t1 t2  (Or.inr rfl) hbt0 hbt1 hbt2 H locs ls hw hP hD hS (lv_sub hl [0, 1, 2] rfl)
  have hJ27 : ∀ (S : MSt) (t0 : Int32) (t1 : Int32), (t0 = 0 ∨ t0 = 1) → (t1 = 0 ∨ t1 = 1) → ∀ (H : Heap) (locs : List Loc) (ls : Array Slot), wpJ_M_slit_27 post p0 p1 S t0 t1 → va_P D vwCl (MW cI cL cZ hm am S) H → va_D A (MW cI cL cZ hm am S) → va_S A s.heap H locs → lv_has ls 4 [(0, .ref hm), (1, .int p0), (2, .int p1)] → W p l e (headSpec wsM_slit { frames := 3, cells := 0, slots := 0, locals := 64 }).room s m ([.ref hm, .int p0, .int p1] : List Value).toArray below meth c H locs 0 0 (MQ below (gQi D [(cI, .int), (cL, .long), (cZ, .boolean)] (MW cI cL cZ hm am) post A) ([.ref hm, .int p0, .int p1] : List Value).toArray s 0 0 A) (F0 m 27 ls [.int t0, .int t1, .ref hm]) := by
    intro S t0 t1 hbt0 hbt1 H locs ls hw hP hD hS hl
    dsimp only [wpJ_M_slit_27] at hw
    refine lv_iload_n hx hb dM_slit_27 rfl (lv_at hl 2 rfl) ?_
    refine lv_iconst (v := 2) hx hb dM_slit_28 (by decide) ?_
    refine lv_iconst (v := 4) hx hb dM_slit_29 (by decide) ?_
    refine gk_z (wr := []) (wc := MW cI cL cZ hm am S) (wfc := MW cI cL cZ hm am) hP hD hS hA (va_runS (As := [.int p1, .int 2, .int 4]) (rest := [.int t0, .int t1, .ref hm]) C (c_M_in l hl9 D cI cL cZ hm am _ p1 2 4 S hw H.size) (va_cwS 3 hts (gGS (by decide +kernel) kM_in) rfl rfl rfl (by decide +kernel) ⟨Nat.le_of_ble_eq_true rfl, Nat.le_of_ble_eq_true rfl⟩) (g_preS (wr := []) (wc := MW cI cL cZ hm am S) hK hG hA hP hD hS) rfl rfl hl.1 rfl (lv_room (Nat.le_of_ble_eq_true rfl)) dM_slit_30 ⟨Nat.le_of_ble_eq_true rfl, Nat.le_of_ble_eq_true rfl⟩) (fun r16 S15 hbr16 H locs hw hP hD hS => ?_)
    have hP : va_P D vwCl (MW cI cL cZ hm am S15) H := hP
    have hD : va_D A (MW cI cL cZ hm am S15) := hD
    refine lv_if_ne (tgt := 40) hx hb dM_slit_33 (by decide) (fun c17 => ?_) (fun c17 => ?_)
    · have hw := hw.2 c17
      refine lv_iconst (v := 0) hx hb dM_slit_40 (by decide) ?_
      exact hJ41 S15 0 t0 t1  (Or.inl rfl) hbt0 hbt1 H locs ls hw hP hD hS (lv_sub hl [0, 1, 2] rfl)
    · have hw := hw.1 c17
      refine lv_iconst (v := 1) hx hb dM_slit_36 (by decide) ?_
      refine lv_goto (tgt := 41) hx hb dM_slit_37 (by decide) ?_
      exact hJ41 S15 1 t0 t1  (Or.inr rfl) hbt0 hbt1 H locs ls hw hP hD hS (lv_sub hl [0, 1, 2] rfl)
  have hJ14 : ∀ (S : MSt) (t0 : Int32), (t0 = 0 ∨ t0 = 1) → ∀ (H : Heap) (locs : List Loc) (ls : Array Slot), wpJ_M_slit_14 post p0 p1 S t0 → va_P D vwCl (MW cI cL cZ hm am S) H → va_D A (MW cI cL cZ hm am S) → va_S A s.heap H locs → lv_has ls 4 [(0, .ref hm), (1, .int p0), (2, .int p1)] → W p l e (headSpec wsM_slit { frames := 3, cells := 0, slots := 0, locals := 64 }).room s m ([.ref hm, .int p0, .int p1] : List Value).toArray below meth c H locs 0 0 (MQ below (gQi D [(cI, .int), (cL, .long), (cZ, .boolean)] (MW cI cL cZ hm am) post A) ([.ref hm, .int p0, .int p1] : List Value).toArray s 0 0 A) (F0 m 14 ls [.int t0, .ref hm]) := by
    intro S t0 hbt0 H locs ls hw hP hD hS hl
    dsimp only [wpJ_M_slit_14] at hw
    refine lv_aload_n hx hb dM_slit_14 rfl (lv_at hl 0 rfl) ?_
    refine lv_iload_n hx hb dM_slit_15 rfl (lv_at hl 1 rfl) ?_
    refine gk_z (wr := []) (wc := MW cI cL cZ hm am S) (wfc := MW cI cL cZ hm am) hP hD hS hA (va_runV (As := [.int p0]) (rest := [.int t0, .ref hm]) C (c_M_isAtHand l hl9 D cI cL cZ hm am _ p0 S hw H.size) (cwV 1 hts (gGV (by decide +kernel) kM_isAtHand) rfl rfl rfl (by decide +kernel) ⟨Nat.le_of_ble_eq_true rfl, Nat.le_of_ble_eq_true rfl⟩) (g_preV (wr := []) (wc := MW cI cL cZ hm am S) (ci := 2) hK hG hA hP hD hS rfl (MWc_0 cI cL cZ hm am S) rfl) rfl rfl hl.1 rfl (lv_room (Nat.le_of_ble_eq_true rfl)) dM_slit_16 ⟨Nat.le_of_ble_eq_true rfl, Nat.le_of_ble_eq_true rfl⟩) (fun r19 S18 hbr19 H locs hw hP hD hS => ?_)
    have hP : va_P D vwCl (MW cI cL cZ hm am S18) H := hP
    have hD : va_D A (MW cI cL cZ hm am S18) := hD
    refine lv_if_ne (tgt := 26) hx hb dM_slit_19 (by decide) (fun c20 => ?_) (fun c20 => ?_)
    · have hw := hw.2 c20
      refine lv_iconst (v := 0) hx hb dM_slit_26 (by decide) ?_
      exact hJ27 S18 0 t0  (Or.inl rfl) hbt0 H locs ls hw hP hD hS (lv_sub hl [0, 1, 2] rfl)
    · have hw := hw.1 c20
      refine lv_iconst (v := 1) hx hb dM_slit_22 (by decide) ?_
      refine lv_goto (tgt := 27) hx hb dM_slit_23 (by decide) ?_
      exact hJ27 S18 1 t0  (Or.inr rfl) hbt0 H locs ls hw hP hD hS (lv_sub hl [0, 1, 2] rfl)
  dsimp only [wp_M_slit] at hw
  refine lv_aload_n hx hb dM_slit_0 rfl (lv_at hl 0 rfl) ?_
  refine lv_aload_n hx hb dM_slit_1 rfl (lv_at hl 0 rfl) ?_
  refine lv_iload_n hx hb dM_slit_2 rfl (lv_at hl 1 rfl) ?_
  refine gk_z (wr := []) (wc := MW cI cL cZ hm am S) (wfc := MW cI cL cZ hm am) hP hD hS hA (va_runV (As := [.int p0]) (rest := [.ref hm]) C (c_M_isPiece l hl9 D cI cL cZ hm am _ p0 S hw H.size) (cwV 1 hts (gGV (by decide +kernel) kM_isPiece) rfl rfl rfl (by decide +kernel) ⟨Nat.le_of_ble_eq_true rfl, Nat.le_of_ble_eq_true rfl⟩) (g_preV (wr := []) (wc := MW cI cL cZ hm am S) (ci := 2) hK hG hA hP hD hS rfl (MWc_0 cI cL cZ hm am S) rfl) rfl rfl hl.1 rfl (lv_room (Nat.le_of_ble_eq_true rfl)) dM_slit_3 ⟨Nat.le_of_ble_eq_true rfl, Nat.le_of_ble_eq_true rfl⟩) (fun r22 S21 hbr22 H locs hw hP hD hS => ?_)
  have hP : va_P D vwCl (MW cI cL cZ hm am S21) H := hP
  have hD : va_D A (MW cI cL cZ hm am S21) := hD
  refine lv_if_ne (tgt := 13) hx hb dM_slit_6 (by decide) (fun c23 => ?_) (fun c23 => ?_)
  · have hw := hw.2 c23
    refine lv_iconst (v := 0) hx hb dM_slit_13 (by decide) ?_
    exact hJ14 S21 0  (Or.inl rfl) H locs ls hw hP hD hS (lv_sub hl [0, 1, 2] rfl)
  · have hw := hw.1 c23
    refine lv_iconst (v := 1) hx hb dM_slit_9 (by decide) ?_
    refine lv_goto (tgt := 14) hx hb dM_slit_10 (by decide) ?_
    exact hJ14 S21 1  (Or.inr rfl) H locs ls hw hP hD hS (lv_sub hl [0, 1, 2] rfl)
def wpJ_M_hold_60 (post : MSt → Prop) (p0 : Int32) (p1 : Int32) (S : MSt) (t0 : Int32) (t1 : Int32) : Prop := (wp_M_throwing (fun r2 S1 => ((r2 = 0 → (vp_in p0 40 ∧ (∀ S5 : MSt, S5 = muHe S1 p0 p1 → (post S5)))) ∧ (¬ r2 = 0 → (post S1)))) t1 t0 0 0 S)
def wpJ_M_hold_59 (post : MSt → Prop) (p0 : Int32) (p1 : Int32) (S : MSt) (t0 : Int32) : Prop := (wpJ_M_hold_60 post p0 p1 S 0 t0)
def wpJ_M_hold_55 (post : MSt → Prop) (p0 : Int32) (p1 : Int32) (S : MSt) (t0 : Int32) : Prop := (wpJ_M_hold_60 post p0 p1 S 1 t0)
def wpJ_M_hold_50 (post : MSt → Prop) (p0 : Int32) (p1 : Int32) (S : MSt) (t0 : Int32) (t2 : Int32) : Prop := (vp_in t0 40 ∧ (((mHe S t0.toNatClampNeg) = p1 → (wpJ_M_hold_55 post p0 p1 S t2)) ∧ (¬ (mHe S t0.toNatClampNeg) = p1 → (wpJ_M_hold_59 post p0 p1 S t2))))
def wpJ_M_hold_33 (post : MSt → Prop) (p0 : Int32) (p1 : Int32) (S : MSt) (u3 : Int32) (t0 : Int32) (t2 : Int32) : Prop := (vp_in t0 40 ∧ (((mSt S t0.toNatClampNeg) = 0 → ((u3 = 0 → (wpJ_M_hold_50 post p0 p1 S p0 t2)) ∧ (¬ u3 = 0 → (wpJ_M_hold_50 post p0 p1 S 0 t2)))) ∧ (¬ (mSt S t0.toNatClampNeg) = 0 → (wpJ_M_hold_55 post p0 p1 S t2))))
def wpJ_M_hold_13 (post : MSt → Prop) (p0 : Int32) (p1 : Int32) (S : MSt) (t0 : Int32) : Prop := ((t0 = 0 → (wpJ_M_hold_33 post p0 p1 S t0 p0 t0)) ∧ (¬ t0 = 0 → (wpJ_M_hold_59 post p0 p1 S t0)))
def wp_M_hold (post : MSt → Prop) (p0 : Int32) (p1 : Int32) (S : MSt) : Prop := (wp_M_isPiece (fun r13 S12 => ((r13 = 0 → (wpJ_M_hold_13 post p0 p1 S12 1)) ∧ (¬ r13 = 0 → (wpJ_M_hold_13 post p0 p1 S12 0)))) p0 S)
set_option maxHeartbeats 4000000 in
set_option maxRecDepth 100000 in
theorem c_M_hold (l : Launch) (hl9 : l.stackTraces = false) (D : va_G) (cI cL cZ : ClassId) (hm : Nat) (am : Nat → Nat) (post : MSt → Prop) (p0 : Int32) (p1 : Int32) (S : MSt) (hw : wp_M_hold post p0 p1 S) : gMv l yM_hold wsM_hold ({ frames := 2, cells := 0, slots := 0, locals := 43 }) D [(cI, .int), (cL, .long), (cZ, .boolean)] [.ref hm, .int p0, .int p1] (MW cI cL cZ hm am S) (MW cI cL cZ hm am) post := by
  refine g_ofMv (cc := cM_hold) (maxL := 4) (ret := none) (own := RM9) (by decide) rfl rfl (Nat.le_of_ble_eq_true rfl) ?_
  intro p e s m below meth c A H locs ls C hr hlocks hK hG hA hP hD hS hl
  obtain ⟨hx, hb, hml, hown, hts⟩ := id C
  have hts := fun w (h9 : w ∈ gW) => hts w (List.mem_cons_of_mem _ h9)
  have hto := fun w (h9 : w ∈ gWo) => hts w (gWo_in w h9)
  have hl : lv_has ls 4 [(0, .ref hm), (1, .int p0), (2, .int p1)] := hl
  have hJ60 : ∀ (S : MSt) (t0 : Int32) (t1 : Int32), (t0 = 0 ∨ t0 = 1) → (t1 = 0 ∨ t1 = 1) → ∀ (H : Heap) (locs : List Loc) (ls : Array Slot), wpJ_M_hold_60 post p0 p1 S t0 t1 → va_P D vwCl (MW cI cL cZ hm am S) H → va_D A (MW cI cL cZ hm am S) → va_S A s.heap H locs → lv_has ls 4 [(0, .ref hm), (1, .int p0), (2, .int p1)] → W p l e (headSpec wsM_hold { frames := 2, cells := 0, slots := 0, locals := 43 }).room s m ([.ref hm, .int p0, .int p1] : List Value).toArray below meth c H locs 0 0 (MQ below (gQv D [(cI, .int), (cL, .long), (cZ, .boolean)] (MW cI cL cZ hm am) post A) ([.ref hm, .int p0, .int p1] : List Value).toArray s 0 0 A) (F0 m 60 ls [.int t0, .int t1, .ref hm]) := by
    intro S t0 t1 hbt0 hbt1 H locs ls hw hP hD hS hl
    dsimp only [wpJ_M_hold_60] at hw
    refine lv_iconst (v := 0) hx hb dM_hold_60 (by decide) ?_
    refine lv_iconst (v := 0) hx hb dM_hold_61 (by decide) ?_
    refine gk_z (wr := []) (wc := MW cI cL cZ hm am S) (wfc := MW cI cL cZ hm am) hP hD hS hA (va_runV (As := [.int t1, .int t0, .int 0, .int 0]) (rest := []) C (c_M_throwing l hl9 D cI cL cZ hm am _ t1 t0 0 0 S hw H.size) (cwV 4 hts (gGV (by decide +kernel) kM_throwing) rfl rfl rfl (by decide +kernel) ⟨Nat.le_of_ble_eq_true rfl, Nat.le_of_ble_eq_true rfl⟩) (g_preV (wr := []) (wc := MW cI cL cZ hm am S) (ci := 2) hK hG hA hP hD hS rfl (MWc_0 cI cL cZ hm am S) rfl) rfl rfl hl.1 rfl (lv_room (Nat.le_of_ble_eq_true rfl)) dM_hold_62 ⟨Nat.le_of_ble_eq_true rfl, Nat.le_of_ble_eq_true rfl⟩) (fun r2 S1 hbr2 H locs hw hP hD hS => ?_)
    have hP : va_P D vwCl (MW cI cL cZ hm am S1) H := hP
    have hD : va_D A (MW cI cL cZ hm am S1) := hD
    refine lv_if_eq (tgt := 69) hx hb dM_hold_65 (by decide) (fun c3 => ?_) (fun c3 => ?_)
    · have hw := hw.1 c3
      refine lv_aload_n hx hb dM_hold_69 rfl (lv_at hl 0 rfl) ?_
      refine va_get (ci := 2) (v := .ref (am 4)) (C := RM9) (T := TM9) (N := 24) hx hb hts iM9 hown hK hP 0 (MWc_0 cI cL cZ hm am S1) rfl 6 (by decide) (hto (.fieldLink RM9 22 "PieceTraceModel" "held" "[Z") (by decide +kernel)) (fun _ h9 => h9) rfl dM_hold_70 ?_
      refine lv_iload_n hx hb dM_hold_73 rfl (lv_at hl 1 rfl) ?_
      refine lv_iload_n hx hb dM_hold_74 rfl (lv_at hl 2 rfl) ?_
      obtain ⟨hi4, hw⟩ := hw
      refine g_zast (wf := MW cI cL cZ hm am) (S' := muHe S1 p0 p1) hx hb hK hP hD hS 5 2 (MWc_5 cI cL cZ hm am S1) rfl rfl hi4 dM_hold_75 (fun S5 eS5 H locs hP hD hS => ?_)
      have hw := hw S5 eS5
      exact gr_v hx hb hr hlocks hK hP hD hS hw (Nat.le_of_ble_eq_true rfl) (Nat.le_of_ble_eq_true rfl) dM_hold_76
    · have hw := hw.2 c3
      exact gr_v hx hb hr hlocks hK hP hD hS hw (Nat.le_of_ble_eq_true rfl) (Nat.le_of_ble_eq_true rfl) dM_hold_68
  have hJ59 : ∀ (S : MSt) (t0 : Int32), (t0 = 0 ∨ t0 = 1) → ∀ (H : Heap) (locs : List Loc) (ls : Array Slot), wpJ_M_hold_59 post p0 p1 S t0 → va_P D vwCl (MW cI cL cZ hm am S) H → va_D A (MW cI cL cZ hm am S) → va_S A s.heap H locs → lv_has ls 4 [(0, .ref hm), (1, .int p0), (2, .int p1)] → W p l e (headSpec wsM_hold { frames := 2, cells := 0, slots := 0, locals := 43 }).room s m ([.ref hm, .int p0, .int p1] : List Value).toArray below meth c H locs 0 0 (MQ below (gQv D [(cI, .int), (cL, .long), (cZ, .boolean)] (MW cI cL cZ hm am) post A) ([.ref hm, .int p0, .int p1] : List Value).toArray s 0 0 A) (F0 m 59 ls [.int t0, .ref hm]) := by
    intro S t0 hbt0 H locs ls hw hP hD hS hl
    dsimp only [wpJ_M_hold_59] at hw
    refine lv_iconst (v := 0) hx hb dM_hold_59 (by decide) ?_
    exact hJ60 S 0 t0  (Or.inl rfl) hbt0 H locs ls hw hP hD hS (lv_sub hl [0, 1, 2] rfl)
  have hJ55 : ∀ (S : MSt) (t0 : Int32), (t0 = 0 ∨ t0 = 1) → ∀ (H : Heap) (locs : List Loc) (ls : Array Slot), wpJ_M_hold_55 post p0 p1 S t0 → va_P D vwCl (MW cI cL cZ hm am S) H → va_D A (MW cI cL cZ hm am S) → va_S A s.heap H locs → lv_has ls 4 [(0, .ref hm), (1, .int p0), (2, .int p1)] → W p l e (headSpec wsM_hold { frames := 2, cells := 0, slots := 0, locals := 43 }).room s m ([.ref hm, .int p0, .int p1] : List Value).toArray below meth c H locs 0 0 (MQ below (gQv D [(cI, .int), (cL, .long), (cZ, .boolean)] (MW cI cL cZ hm am) post A) ([.ref hm, .int p0, .int p1] : List Value).toArray s 0 0 A) (F0 m 55 ls [.int t0, .ref hm]) := by
    intro S t0 hbt0 H locs ls hw hP hD hS hl
    dsimp only [wpJ_M_hold_55] at hw
    refine lv_iconst (v := 1) hx hb dM_hold_55 (by decide) ?_
    refine lv_goto (tgt := 60) hx hb dM_hold_56 (by decide) ?_
    exact hJ60 S 1 t0  (Or.inr rfl) hbt0 H locs ls hw hP hD hS (lv_sub hl [0, 1, 2] rfl)
  have hJ50 : ∀ (S : MSt) (t0 : Int32) (t2 : Int32), (t2 = 0 ∨ t2 = 1) → ∀ (H : Heap) (locs : List Loc) (ls : Array Slot), wpJ_M_hold_50 post p0 p1 S t0 t2 → va_P D vwCl (MW cI cL cZ hm am S) H → va_D A (MW cI cL cZ hm am S) → va_S A s.heap H locs → lv_has ls 4 [(0, .ref hm), (1, .int p0), (2, .int p1)] → W p l e (headSpec wsM_hold { frames := 2, cells := 0, slots := 0, locals := 43 }).room s m ([.ref hm, .int p0, .int p1] : List Value).toArray below meth c H locs 0 0 (MQ below (gQv D [(cI, .int), (cL, .long), (cZ, .boolean)] (MW cI cL cZ hm am) post A) ([.ref hm, .int p0, .int p1] : List Value).toArray s 0 0 A) (F0 m 50 ls [.int t0, .ref (am 4), .int t2, .ref hm]) := by
    intro S t0 t2 hbt2 H locs ls hw hP hD hS hl
    dsimp only [wpJ_M_hold_50] at hw
    obtain ⟨hi6, hw⟩ := hw
    refine va_zald (f := (mHe S)) hx hb hK hP 5 2 (MWc_5 cI cL cZ hm am S) rfl hi6 dM_hold_50 ?_
    refine lv_iload_n hx hb dM_hold_51 rfl (lv_at hl 2 rfl) ?_
    refine lv_icmp_ne (tgt := 59) hx hb dM_hold_52 (by decide) (fun c7 => ?_) (fun c7 => ?_)
    · have hw := hw.2 c7
      exact hJ59 S t2  hbt2 H locs ls hw hP hD hS (lv_sub hl [0, 1, 2] rfl)
    · have hw := hw.1 c7
      exact hJ55 S t2  hbt2 H locs ls hw hP hD hS (lv_sub hl [0, 1, 2] rfl)
  have hJ33 : ∀ (S : MSt) (u3 : Int32) (t0 : Int32) (t2 : Int32), (u3 = 0 ∨ u3 = 1) → (t2 = 0 ∨ t2 = 1) → ∀ (H : Heap) (locs : List Loc) (ls : Array Slot), wpJ_M_hold_33 post p0 p1 S u3 t0 t2 → va_P D vwCl (MW cI cL cZ hm am S) H → va_D A (MW cI cL cZ hm am S) → va_S A s.heap H locs → lv_has ls 4 [(3, .int u3), (0, .ref hm), (1, .int p0), (2, .int p1)] → W p l e (headSpec wsM_hold { frames := 2, cells := 0, slots := 0, locals := 43 }).room s m ([.ref hm, .int p0, .int p1] : List Value).toArray below meth c H locs 0 0 (MQ below (gQv D [(cI, .int), (cL, .long), (cZ, .boolean)] (MW cI cL cZ hm am) post A) ([.ref hm, .int p0, .int p1] : List Value).toArray s 0 0 A) (F0 m 33 ls [.int t0, .ref (am 3), .int t2, .ref hm]) := by
    intro S u3 t0 t2 hbu3 hbt2 H locs ls hw hP hD hS hl
    dsimp only [wpJ_M_hold_33] at hw
    obtain ⟨hi8, hw⟩ := hw
    refine va_iald (f := (mSt S)) hx hb hK hP 4 0 (MWc_4 cI cL cZ hm am S) rfl hi8 dM_hold_33 ?_
    refine lv_if_ne (tgt := 55) hx hb dM_hold_34 (by decide) (fun c9 => ?_) (fun c9 => ?_)
    · have hw := hw.2 c9
      exact hJ55 S t2  hbt2 H locs ls hw hP hD hS (lv_sub hl [1, 2, 3] rfl)
    · have hw := hw.1 c9
      refine lv_aload_n hx hb dM_hold_37 rfl (lv_at hl 1 rfl) ?_
      refine va_get (ci := 2) (v := .ref (am 4)) (C := RM9) (T := TM9) (N := 24) hx hb hts iM9 hown hK hP 0 (MWc_0 cI cL cZ hm am S) rfl 6 (by decide) (hto (.fieldLink RM9 22 "PieceTraceModel" "held" "[Z") (by decide +kernel)) (fun _ h9 => h9) rfl dM_hold_38 ?_
      refine lv_iload_n hx hb dM_hold_41 rfl (lv_at hl 0 rfl) ?_
      refine lv_if_eq (tgt := 49) hx hb dM_hold_42 (by decide) (fun c10 => ?_) (fun c10 => ?_)
      · have hw := hw.1 c10
        refine lv_iload_n hx hb dM_hold_49 rfl (lv_at hl 2 rfl) ?_
        exact hJ50 S p0 t2  hbt2 H locs ls hw hP hD hS (lv_sub hl [1, 2, 3] rfl)
      · have hw := hw.2 c10
        refine lv_iconst (v := 0) hx hb dM_hold_45 (by decide) ?_
        refine lv_goto (tgt := 50) hx hb dM_hold_46 (by decide) ?_
        exact hJ50 S 0 t2  hbt2 H locs ls hw hP hD hS (lv_sub hl [1, 2, 3] rfl)
  have hJ13 : ∀ (S : MSt) (t0 : Int32), (t0 = 0 ∨ t0 = 1) → ∀ (H : Heap) (locs : List Loc) (ls : Array Slot), wpJ_M_hold_13 post p0 p1 S t0 → va_P D vwCl (MW cI cL cZ hm am S) H → va_D A (MW cI cL cZ hm am S) → va_S A s.heap H locs → lv_has ls 4 [(0, .ref hm), (1, .int p0), (2, .int p1)] → W p l e (headSpec wsM_hold { frames := 2, cells := 0, slots := 0, locals := 43 }).room s m ([.ref hm, .int p0, .int p1] : List Value).toArray below meth c H locs 0 0 (MQ below (gQv D [(cI, .int), (cL, .long), (cZ, .boolean)] (MW cI cL cZ hm am) post A) ([.ref hm, .int p0, .int p1] : List Value).toArray s 0 0 A) (F0 m 13 ls [.int t0]) := by
    intro S t0 hbt0 H locs ls hw hP hD hS hl
    dsimp only [wpJ_M_hold_13] at hw
    refine lv_istore_n (lv' := [(3, .int t0), (0, .ref hm), (1, .int p0), (2, .int p1)]) hx hb dM_hold_13 rfl hl (by decide) rfl (fun ls hl => ?_)
    refine lv_aload_n hx hb dM_hold_14 rfl (lv_at hl 1 rfl) ?_
    refine lv_iload_n hx hb dM_hold_15 rfl (lv_at hl 0 rfl) ?_
    refine lv_iload_n hx hb dM_hold_16 rfl (lv_at hl 0 rfl) ?_
    refine lv_if_ne (tgt := 59) hx hb dM_hold_17 (by decide) (fun c11 => ?_) (fun c11 => ?_)
    · have hw := hw.2 c11
      exact hJ59 S t0  hbt0 H locs ls hw hP hD hS (lv_sub hl [1, 2, 3] rfl)
    · have hw := hw.1 c11
      refine lv_aload_n hx hb dM_hold_20 rfl (lv_at hl 1 rfl) ?_
      refine va_get (ci := 2) (v := .ref (am 3)) (C := RM9) (T := TM9) (N := 24) hx hb hts iM9 hown hK hP 0 (MWc_0 cI cL cZ hm am S) rfl 5 (by decide) (hto (.fieldLink RM9 19 "PieceTraceModel" "state" "[I") (by decide +kernel)) (fun _ h9 => h9) rfl dM_hold_21 ?_
      refine lv_iload_n hx hb dM_hold_24 rfl (lv_at hl 0 rfl) ?_
      refine lv_if_eq (tgt := 32) hx hb dM_hold_25 (by decide) (fun _ => ?_) (fun c9 => absurd c11 c9)
      refine lv_iload_n hx hb dM_hold_32 rfl (lv_at hl 2 rfl) ?_
      exact hJ33 S t0 p0 t0 hbt0 hbt0 H locs ls hw hP hD hS (lv_sub hl [0, 1, 2, 3] rfl)
  dsimp only [wp_M_hold] at hw
  refine lv_aload_n hx hb dM_hold_0 rfl (lv_at hl 0 rfl) ?_
  refine lv_iload_n hx hb dM_hold_1 rfl (lv_at hl 1 rfl) ?_
  refine gk_z (wr := []) (wc := MW cI cL cZ hm am S) (wfc := MW cI cL cZ hm am) hP hD hS hA (va_runV (As := [.int p0]) (rest := []) C (c_M_isPiece l hl9 D cI cL cZ hm am _ p0 S hw H.size) (cwV 1 hts (gGV (by decide +kernel) kM_isPiece) rfl rfl rfl (by decide +kernel) ⟨Nat.le_of_ble_eq_true rfl, Nat.le_of_ble_eq_true rfl⟩) (g_preV (wr := []) (wc := MW cI cL cZ hm am S) (ci := 2) hK hG hA hP hD hS rfl (MWc_0 cI cL cZ hm am S) rfl) rfl rfl hl.1 rfl (lv_room (Nat.le_of_ble_eq_true rfl)) dM_hold_2 ⟨Nat.le_of_ble_eq_true rfl, Nat.le_of_ble_eq_true rfl⟩) (fun r13 S12 hbr13 H locs hw hP hD hS => ?_)
  have hP : va_P D vwCl (MW cI cL cZ hm am S12) H := hP
  have hD : va_D A (MW cI cL cZ hm am S12) := hD
  refine lv_if_ne (tgt := 12) hx hb dM_hold_5 (by decide) (fun c14 => ?_) (fun c14 => ?_)
  · have hw := hw.2 c14
    refine lv_iconst (v := 0) hx hb dM_hold_12 (by decide) ?_
    exact hJ13 S12 0  (Or.inl rfl) H locs ls hw hP hD hS (lv_sub hl [0, 1, 2] rfl)
  · have hw := hw.1 c14
    refine lv_iconst (v := 1) hx hb dM_hold_8 (by decide) ?_
    refine lv_goto (tgt := 13) hx hb dM_hold_9 (by decide) ?_
    exact hJ13 S12 1  (Or.inr rfl) H locs ls hw hP hD hS (lv_sub hl [0, 1, 2] rfl)
